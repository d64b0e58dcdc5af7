/-! printed: tables of the methods -/
abbrev b_Po_handOf : AT := [(0, am_ald 0 1), (1, am_ild 1 1), (2, am_ild 2 1), (3, am_ild 3 1), (4, am_callV am_Y 4 11 3), (7, am_lst 4 2), (9, am_lld 4 2), (11, am_lc 0 1), (12, am_lcmp 5 20), (16, am_ic 1 1), (17, am_goto 32), (20, am_lld 4 2), (22, am_lc 0 1), (23, am_lcmp 3 31), (27, am_ic (-1) 1), (28, am_goto 32), (31, am_ic 0 1), (32, am_ret)]
set_option maxRecDepth 100000 in
set_option maxHeartbeats 4000000 in
theorem T_Po_handOf : am_T am_Y am_cl am_Gw am_mi 51 b_Po_handOf := by
  intro E A p l e s m args below meth c Rt X hr
  refine List.forall_mem_cons.mpr ⟨am_aload_n_ok (k := 0) X (by decide +kernel), ?_⟩
  refine List.forall_mem_cons.mpr ⟨am_iload_n_ok (k := 1) X (by decide +kernel), ?_⟩
  refine List.forall_mem_cons.mpr ⟨am_iload_n_ok (k := 2) X (by decide +kernel), ?_⟩
  refine List.forall_mem_cons.mpr ⟨am_iload_n_ok (k := 3) X (by decide +kernel), ?_⟩
  refine List.forall_mem_cons.mpr ⟨am_callV_ok (C := R_Po) (T := F_Po) (N := 4) (idx := 25) X rfl (am_GV m_Po_25 v_Po_crossProduct.1 v_Po_crossProduct.2.1 v_Po_crossProduct.2.2.1 v_Po_crossProduct.2.2.2) ⟨rfl, v_Po_crossProductd⟩ ⟨by decide, by decide⟩ (Nat.zero_le _) (by decide +kernel), ?_⟩
  refine List.forall_mem_cons.mpr ⟨am_lstore_ok X (by decide) (by decide +kernel), ?_⟩
  refine List.forall_mem_cons.mpr ⟨am_lload_ok X (by decide +kernel), ?_⟩
  refine List.forall_mem_cons.mpr ⟨am_lconst_ok (n := 0) X (by decide +kernel), ?_⟩
  refine List.forall_mem_cons.mpr ⟨am_lcmp_le_ok (off := 7) X (by decide +kernel) (by decide +kernel) (by decide), ?_⟩
  refine List.forall_mem_cons.mpr ⟨am_iconst_ok X (by decide +kernel), ?_⟩
  refine List.forall_mem_cons.mpr ⟨am_goto_ok (off := 15) X (by decide +kernel) (by decide), ?_⟩
  refine List.forall_mem_cons.mpr ⟨am_lload_ok X (by decide +kernel), ?_⟩
  refine List.forall_mem_cons.mpr ⟨am_lconst_ok (n := 0) X (by decide +kernel), ?_⟩
  refine List.forall_mem_cons.mpr ⟨am_lcmp_ge_ok (off := 7) X (by decide +kernel) (by decide +kernel) (by decide), ?_⟩
  refine List.forall_mem_cons.mpr ⟨am_iconst_ok X (by decide +kernel), ?_⟩
  refine List.forall_mem_cons.mpr ⟨am_goto_ok (off := 4) X (by decide +kernel) (by decide), ?_⟩
  refine List.forall_mem_cons.mpr ⟨am_iconst_ok X (by decide +kernel), ?_⟩
  refine List.forall_mem_cons.mpr ⟨am_ret_ok X hr (by decide +kernel), ?_⟩
  exact fun _ h => absurd h List.not_mem_nil
abbrev b_De_beside : AT := [(0, am_ald 0 1), (1, am_ild 1 1), (2, am_callV am_Y 8 28 1), (5, am_ald 0 1), (6, am_ild 2 1), (7, am_callV am_Y 8 28 1), (10, am_ild 3 1), (11, am_ic (-1) 1), (12, am_icmp 2 32), (15, am_ild 3 1), (16, am_ic 1 1), (17, am_icmp 4 32), (20, am_ald 0 1), (21, am_get am_Y 8 0), (24, am_ild 1 1), (25, am_ild 2 1), (26, am_callV am_Y 4 10 2), (29, am_if 0 34), (32, am_ic (-1) 1), (33, am_ret), (34, am_ic 0 1), (35, am_ist 4 2), (37, am_ic 0 1), (38, am_ist 5 2), (40, am_ild 5 2), (42, am_ald 0 1), (43, am_get am_Y 8 0), (46, am_get am_Y 4 2), (49, am_icmp 3 76), (52, am_ald 0 1), (53, am_get am_Y 8 0), (56, am_ild 1 1), (57, am_ild 2 1), (58, am_ild 5 2), (60, am_callV am_Y 4 51 3), (63, am_ild 3 1), (64, am_icmp 1 70), (67, am_inc 4 (1)), (70, am_inc 5 (1)), (73, am_goto 40), (76, am_ild 4 2), (78, am_ret)]
set_option maxRecDepth 100000 in
set_option maxHeartbeats 4000000 in
theorem T_De_beside : am_T am_Y am_cl am_Gw am_mi 52 b_De_beside := by
  intro E A p l e s m args below meth c Rt X hr
  refine List.forall_mem_cons.mpr ⟨am_aload_n_ok (k := 0) X (by decide +kernel), ?_⟩
  refine List.forall_mem_cons.mpr ⟨am_iload_n_ok (k := 1) X (by decide +kernel), ?_⟩
  refine List.forall_mem_cons.mpr ⟨am_callV_ok (C := R_De) (T := F_De) (N := 7) (idx := 94) X rfl (am_GV m_De_94 v_De_requirePoint.1 v_De_requirePoint.2.1 v_De_requirePoint.2.2.1 v_De_requirePoint.2.2.2) ⟨rfl, v_De_requirePointd⟩ ⟨by decide, by decide⟩ (Nat.zero_le _) (by decide +kernel), ?_⟩
  refine List.forall_mem_cons.mpr ⟨am_aload_n_ok (k := 0) X (by decide +kernel), ?_⟩
  refine List.forall_mem_cons.mpr ⟨am_iload_n_ok (k := 2) X (by decide +kernel), ?_⟩
  refine List.forall_mem_cons.mpr ⟨am_callV_ok (C := R_De) (T := F_De) (N := 7) (idx := 94) X rfl (am_GV m_De_94 v_De_requirePoint.1 v_De_requirePoint.2.1 v_De_requirePoint.2.2.1 v_De_requirePoint.2.2.2) ⟨rfl, v_De_requirePointd⟩ ⟨by decide, by decide⟩ (Nat.zero_le _) (by decide +kernel), ?_⟩
  refine List.forall_mem_cons.mpr ⟨am_iload_n_ok (k := 3) X (by decide +kernel), ?_⟩
  refine List.forall_mem_cons.mpr ⟨am_iconst_ok X (by decide +kernel), ?_⟩
  refine List.forall_mem_cons.mpr ⟨am_icmp_lt_ok (off := 20) X (by decide +kernel) (by decide), ?_⟩
  refine List.forall_mem_cons.mpr ⟨am_iload_n_ok (k := 3) X (by decide +kernel), ?_⟩
  refine List.forall_mem_cons.mpr ⟨am_iconst_ok X (by decide +kernel), ?_⟩
  refine List.forall_mem_cons.mpr ⟨am_icmp_gt_ok (off := 15) X (by decide +kernel) (by decide), ?_⟩
  refine List.forall_mem_cons.mpr ⟨am_aload_n_ok (k := 0) X (by decide +kernel), ?_⟩
  refine List.forall_mem_cons.mpr ⟨am_get_ok (C := R_De) (T := F_De) (N := 7) (idx := 12) X rfl (by decide) (fun w h => List.mem_cons_of_mem _ (u_De w h)) (List.mem_cons_of_mem _ w_De_12) (by decide +kernel), ?_⟩
  refine List.forall_mem_cons.mpr ⟨am_iload_n_ok (k := 1) X (by decide +kernel), ?_⟩
  refine List.forall_mem_cons.mpr ⟨am_iload_n_ok (k := 2) X (by decide +kernel), ?_⟩
  refine List.forall_mem_cons.mpr ⟨am_callV_ok (C := R_Po) (T := F_Po) (N := 4) (idx := 160) X rfl (am_GV m_De_160 v_Po_areAtOnePlace.1 v_Po_areAtOnePlace.2.1 v_Po_areAtOnePlace.2.2.1 v_Po_areAtOnePlace.2.2.2) ⟨rfl, v_Po_areAtOnePlaced⟩ ⟨by decide, by decide⟩ (Nat.zero_le _) (by decide +kernel), ?_⟩
  refine List.forall_mem_cons.mpr ⟨am_if_eq_ok (off := 5) X (by decide +kernel) (by decide), ?_⟩
  refine List.forall_mem_cons.mpr ⟨am_iconst_ok X (by decide +kernel), ?_⟩
  refine List.forall_mem_cons.mpr ⟨am_ret_ok X hr (by decide +kernel), ?_⟩
  refine List.forall_mem_cons.mpr ⟨am_iconst_ok X (by decide +kernel), ?_⟩
  refine List.forall_mem_cons.mpr ⟨am_istore_ok X (by decide) (by decide +kernel), ?_⟩
  refine List.forall_mem_cons.mpr ⟨am_iconst_ok X (by decide +kernel), ?_⟩
  refine List.forall_mem_cons.mpr ⟨am_istore_ok X (by decide) (by decide +kernel), ?_⟩
  refine List.forall_mem_cons.mpr ⟨am_iload_ok X (by decide +kernel), ?_⟩
  refine List.forall_mem_cons.mpr ⟨am_aload_n_ok (k := 0) X (by decide +kernel), ?_⟩
  refine List.forall_mem_cons.mpr ⟨am_get_ok (C := R_De) (T := F_De) (N := 7) (idx := 12) X rfl (by decide) (fun w h => List.mem_cons_of_mem _ (u_De w h)) (List.mem_cons_of_mem _ w_De_12) (by decide +kernel), ?_⟩
  refine List.forall_mem_cons.mpr ⟨am_get_ok (C := R_Po) (T := F_Po) (N := 4) (idx := 68) X rfl (by decide) (fun w h => List.mem_cons_of_mem _ (u_Po w h)) (List.mem_cons_of_mem _ w_De_68) (by decide +kernel), ?_⟩
  refine List.forall_mem_cons.mpr ⟨am_icmp_ge_ok (off := 27) X (by decide +kernel) (by decide), ?_⟩
  refine List.forall_mem_cons.mpr ⟨am_aload_n_ok (k := 0) X (by decide +kernel), ?_⟩
  refine List.forall_mem_cons.mpr ⟨am_get_ok (C := R_De) (T := F_De) (N := 7) (idx := 12) X rfl (by decide) (fun w h => List.mem_cons_of_mem _ (u_De w h)) (List.mem_cons_of_mem _ w_De_12) (by decide +kernel), ?_⟩
  refine List.forall_mem_cons.mpr ⟨am_iload_n_ok (k := 1) X (by decide +kernel), ?_⟩
  refine List.forall_mem_cons.mpr ⟨am_iload_n_ok (k := 2) X (by decide +kernel), ?_⟩
  refine List.forall_mem_cons.mpr ⟨am_iload_ok X (by decide +kernel), ?_⟩
  refine List.forall_mem_cons.mpr ⟨am_callV_ok (C := R_Po) (T := F_Po) (N := 4) (idx := 163) X rfl (am_GV m_De_163 v_Po_handOf.1 v_Po_handOf.2.1 v_Po_handOf.2.2.1 v_Po_handOf.2.2.2) ⟨rfl, v_Po_handOfd⟩ ⟨by decide, by decide⟩ (Nat.zero_le _) (by decide +kernel), ?_⟩
  refine List.forall_mem_cons.mpr ⟨am_iload_n_ok (k := 3) X (by decide +kernel), ?_⟩
  refine List.forall_mem_cons.mpr ⟨am_icmp_ne_ok (off := 6) X (by decide +kernel) (by decide), ?_⟩
  refine List.forall_mem_cons.mpr ⟨am_iinc_ok X (by decide) (by decide +kernel), ?_⟩
  refine List.forall_mem_cons.mpr ⟨am_iinc_ok X (by decide) (by decide +kernel), ?_⟩
  refine List.forall_mem_cons.mpr ⟨am_goto_ok (off := -33) X (by decide +kernel) (by decide), ?_⟩
  refine List.forall_mem_cons.mpr ⟨am_iload_ok X (by decide +kernel), ?_⟩
  refine List.forall_mem_cons.mpr ⟨am_ret_ok X hr (by decide +kernel), ?_⟩
  exact fun _ h => absurd h List.not_mem_nil
abbrev b_Ro_append : AT := [(0, am_ald 0 1), (1, am_get am_Y 5 1), (4, am_ald 0 1), (5, am_get am_Y 5 2), (8, am_ild 1 1), (9, am_iast am_Y), (10, am_ald 0 1), (11, am_dup), (12, am_get am_Y 5 2), (15, am_ic 1 1), (16, am_iadd), (17, am_put am_Y 5 2), (20, am_ald 0 1), (21, am_dup), (22, am_get am_Y 5 3), (25, am_ic 1 1), (26, am_iadd), (27, am_put am_Y 5 3), (30, am_vret)]
set_option maxRecDepth 100000 in
set_option maxHeartbeats 4000000 in
theorem T_Ro_append : am_T am_Y am_cl am_Gw am_mi 53 b_Ro_append := by
  intro E A p l e s m args below meth c Rt X hr
  refine List.forall_mem_cons.mpr ⟨am_aload_n_ok (k := 0) X (by decide +kernel), ?_⟩
  refine List.forall_mem_cons.mpr ⟨am_get_ok (C := R_Ro) (T := F_Ro) (N := 4) (idx := 9) X rfl (by decide) (fun w h => List.mem_cons_of_mem _ (u_Ro w h)) (List.mem_cons_of_mem _ w_Ro_9) (by decide +kernel), ?_⟩
  refine List.forall_mem_cons.mpr ⟨am_aload_n_ok (k := 0) X (by decide +kernel), ?_⟩
  refine List.forall_mem_cons.mpr ⟨am_get_ok (C := R_Ro) (T := F_Ro) (N := 4) (idx := 15) X rfl (by decide) (fun w h => List.mem_cons_of_mem _ (u_Ro w h)) (List.mem_cons_of_mem _ w_Ro_15) (by decide +kernel), ?_⟩
  refine List.forall_mem_cons.mpr ⟨am_iload_n_ok (k := 1) X (by decide +kernel), ?_⟩
  refine List.forall_mem_cons.mpr ⟨am_iast_ok X am_Y0 (by decide +kernel), ?_⟩
  refine List.forall_mem_cons.mpr ⟨am_aload_n_ok (k := 0) X (by decide +kernel), ?_⟩
  refine List.forall_mem_cons.mpr ⟨am_dup_ok X (by decide +kernel), ?_⟩
  refine List.forall_mem_cons.mpr ⟨am_get_ok (C := R_Ro) (T := F_Ro) (N := 4) (idx := 15) X rfl (by decide) (fun w h => List.mem_cons_of_mem _ (u_Ro w h)) (List.mem_cons_of_mem _ w_Ro_15) (by decide +kernel), ?_⟩
  refine List.forall_mem_cons.mpr ⟨am_iconst_ok X (by decide +kernel), ?_⟩
  refine List.forall_mem_cons.mpr ⟨am_iadd_ok X (by decide +kernel), ?_⟩
  refine List.forall_mem_cons.mpr ⟨am_put_ok (C := R_Ro) (T := F_Ro) (N := 4) (idx := 15) X rfl (by decide) (fun w h => List.mem_cons_of_mem _ (u_Ro w h)) t_Ro_ok n_Ro rfl (by decide +kernel) (List.mem_cons_of_mem _ w_Ro_15) (by decide +kernel), ?_⟩
  refine List.forall_mem_cons.mpr ⟨am_aload_n_ok (k := 0) X (by decide +kernel), ?_⟩
  refine List.forall_mem_cons.mpr ⟨am_dup_ok X (by decide +kernel), ?_⟩
  refine List.forall_mem_cons.mpr ⟨am_get_ok (C := R_Ro) (T := F_Ro) (N := 4) (idx := 19) X rfl (by decide) (fun w h => List.mem_cons_of_mem _ (u_Ro w h)) (List.mem_cons_of_mem _ w_Ro_19) (by decide +kernel), ?_⟩
  refine List.forall_mem_cons.mpr ⟨am_iconst_ok X (by decide +kernel), ?_⟩
  refine List.forall_mem_cons.mpr ⟨am_iadd_ok X (by decide +kernel), ?_⟩
  refine List.forall_mem_cons.mpr ⟨am_put_ok (C := R_Ro) (T := F_Ro) (N := 4) (idx := 19) X rfl (by decide) (fun w h => List.mem_cons_of_mem _ (u_Ro w h)) t_Ro_ok n_Ro rfl (by decide +kernel) (List.mem_cons_of_mem _ w_Ro_19) (by decide +kernel), ?_⟩
  refine List.forall_mem_cons.mpr ⟨am_vret_ok X hr (by decide +kernel), ?_⟩
  exact fun _ h => absurd h List.not_mem_nil
abbrev b_De_go : AT := [(0, am_ald 0 1), (1, am_get am_Y 8 0), (4, am_ild 1 1), (5, am_callV am_Y 4 27 1), (8, am_if 0 23), (11, am_ald 0 1), (12, am_get am_Y 8 4), (15, am_get am_Y 5 2), (18, am_ic (40) 2), (20, am_icmp 2 25), (23, am_ic (-1) 1), (24, am_ret), (25, am_ald 0 1), (26, am_get am_Y 8 4), (29, am_ild 1 1), (30, am_callV am_Y 5 53 1), (33, am_ald 0 1), (34, am_get am_Y 8 4), (37, am_get am_Y 5 2), (40, am_ret)]
set_option maxRecDepth 100000 in
set_option maxHeartbeats 4000000 in
theorem T_De_go : am_T am_Y am_cl am_Gw am_mi 54 b_De_go := by
  intro E A p l e s m args below meth c Rt X hr
  refine List.forall_mem_cons.mpr ⟨am_aload_n_ok (k := 0) X (by decide +kernel), ?_⟩
  refine List.forall_mem_cons.mpr ⟨am_get_ok (C := R_De) (T := F_De) (N := 7) (idx := 12) X rfl (by decide) (fun w h => List.mem_cons_of_mem _ (u_De w h)) (List.mem_cons_of_mem _ w_De_12) (by decide +kernel), ?_⟩
  refine List.forall_mem_cons.mpr ⟨am_iload_n_ok (k := 1) X (by decide +kernel), ?_⟩
  refine List.forall_mem_cons.mpr ⟨am_callV_ok (C := R_Po) (T := F_Po) (N := 4) (idx := 119) X rfl (am_GV m_De_119 v_Po_has.1 v_Po_has.2.1 v_Po_has.2.2.1 v_Po_has.2.2.2) ⟨rfl, v_Po_hasd⟩ ⟨by decide, by decide⟩ (Nat.zero_le _) (by decide +kernel), ?_⟩
  refine List.forall_mem_cons.mpr ⟨am_if_eq_ok (off := 15) X (by decide +kernel) (by decide), ?_⟩
  refine List.forall_mem_cons.mpr ⟨am_aload_n_ok (k := 0) X (by decide +kernel), ?_⟩
  refine List.forall_mem_cons.mpr ⟨am_get_ok (C := R_De) (T := F_De) (N := 7) (idx := 44) X rfl (by decide) (fun w h => List.mem_cons_of_mem _ (u_De w h)) (List.mem_cons_of_mem _ w_De_44) (by decide +kernel), ?_⟩
  refine List.forall_mem_cons.mpr ⟨am_get_ok (C := R_Ro) (T := F_Ro) (N := 4) (idx := 86) X rfl (by decide) (fun w h => List.mem_cons_of_mem _ (u_Ro w h)) (List.mem_cons_of_mem _ w_De_86) (by decide +kernel), ?_⟩
  refine List.forall_mem_cons.mpr ⟨am_bipush_ok X (by decide +kernel) (by decide), ?_⟩
  refine List.forall_mem_cons.mpr ⟨am_icmp_lt_ok (off := 5) X (by decide +kernel) (by decide), ?_⟩
  refine List.forall_mem_cons.mpr ⟨am_iconst_ok X (by decide +kernel), ?_⟩
  refine List.forall_mem_cons.mpr ⟨am_ret_ok X hr (by decide +kernel), ?_⟩
  refine List.forall_mem_cons.mpr ⟨am_aload_n_ok (k := 0) X (by decide +kernel), ?_⟩
  refine List.forall_mem_cons.mpr ⟨am_get_ok (C := R_De) (T := F_De) (N := 7) (idx := 44) X rfl (by decide) (fun w h => List.mem_cons_of_mem _ (u_De w h)) (List.mem_cons_of_mem _ w_De_44) (by decide +kernel), ?_⟩
  refine List.forall_mem_cons.mpr ⟨am_iload_n_ok (k := 1) X (by decide +kernel), ?_⟩
  refine List.forall_mem_cons.mpr ⟨am_callV_ok (C := R_Ro) (T := F_Ro) (N := 4) (idx := 167) X rfl (am_GV m_De_167 v_Ro_append.1 v_Ro_append.2.1 v_Ro_append.2.2.1 v_Ro_append.2.2.2) ⟨rfl, v_Ro_appendd⟩ ⟨by decide, by decide⟩ (Nat.zero_le _) (by decide +kernel), ?_⟩
  refine List.forall_mem_cons.mpr ⟨am_aload_n_ok (k := 0) X (by decide +kernel), ?_⟩
  refine List.forall_mem_cons.mpr ⟨am_get_ok (C := R_De) (T := F_De) (N := 7) (idx := 44) X rfl (by decide) (fun w h => List.mem_cons_of_mem _ (u_De w h)) (List.mem_cons_of_mem _ w_De_44) (by decide +kernel), ?_⟩
  refine List.forall_mem_cons.mpr ⟨am_get_ok (C := R_Ro) (T := F_Ro) (N := 4) (idx := 86) X rfl (by decide) (fun w h => List.mem_cons_of_mem _ (u_Ro w h)) (List.mem_cons_of_mem _ w_De_86) (by decide +kernel), ?_⟩
  refine List.forall_mem_cons.mpr ⟨am_ret_ok X hr (by decide +kernel), ?_⟩
  exact fun _ h => absurd h List.not_mem_nil
abbrev b_De_stop : AT := [(0, am_ald 0 1), (1, am_get am_Y 8 4), (4, am_get am_Y 5 2), (7, am_ist 1 1), (8, am_ald 0 1), (9, am_get am_Y 8 4), (12, am_callV am_Y 5 4 0), (15, am_ild 1 1), (16, am_ret)]
set_option maxRecDepth 100000 in
set_option maxHeartbeats 4000000 in
theorem T_De_stop : am_T am_Y am_cl am_Gw am_mi 55 b_De_stop := by
  intro E A p l e s m args below meth c Rt X hr
  refine List.forall_mem_cons.mpr ⟨am_aload_n_ok (k := 0) X (by decide +kernel), ?_⟩
  refine List.forall_mem_cons.mpr ⟨am_get_ok (C := R_De) (T := F_De) (N := 7) (idx := 44) X rfl (by decide) (fun w h => List.mem_cons_of_mem _ (u_De w h)) (List.mem_cons_of_mem _ w_De_44) (by decide +kernel), ?_⟩
  refine List.forall_mem_cons.mpr ⟨am_get_ok (C := R_Ro) (T := F_Ro) (N := 4) (idx := 86) X rfl (by decide) (fun w h => List.mem_cons_of_mem _ (u_Ro w h)) (List.mem_cons_of_mem _ w_De_86) (by decide +kernel), ?_⟩
  refine List.forall_mem_cons.mpr ⟨am_istore_n_ok (k := 1) X (by decide) (by decide +kernel), ?_⟩
  refine List.forall_mem_cons.mpr ⟨am_aload_n_ok (k := 0) X (by decide +kernel), ?_⟩
  refine List.forall_mem_cons.mpr ⟨am_get_ok (C := R_De) (T := F_De) (N := 7) (idx := 44) X rfl (by decide) (fun w h => List.mem_cons_of_mem _ (u_De w h)) (List.mem_cons_of_mem _ w_De_44) (by decide +kernel), ?_⟩
  refine List.forall_mem_cons.mpr ⟨am_callV_ok (C := R_Ro) (T := F_Ro) (N := 4) (idx := 79) X rfl (am_GV m_De_79 v_Ro_removeAll.1 v_Ro_removeAll.2.1 v_Ro_removeAll.2.2.1 v_Ro_removeAll.2.2.2) ⟨rfl, v_Ro_removeAlld⟩ ⟨by decide, by decide⟩ (Nat.zero_le _) (by decide +kernel), ?_⟩
  refine List.forall_mem_cons.mpr ⟨am_iload_n_ok (k := 1) X (by decide +kernel), ?_⟩
  refine List.forall_mem_cons.mpr ⟨am_ret_ok X hr (by decide +kernel), ?_⟩
  exact fun _ h => absurd h List.not_mem_nil
abbrev b_De_place : AT := [(0, am_ild 1 1), (1, am_if 2 27), (4, am_ild 1 1), (5, am_ald 0 1), (6, am_get am_Y 8 4), (9, am_get am_Y 5 2), (12, am_icmp 3 27), (15, am_ald 0 1), (16, am_get am_Y 8 4), (19, am_get am_Y 5 1), (22, am_ild 1 1), (23, am_iald am_Y), (24, am_goto 28), (27, am_ic (-1) 1), (28, am_ret)]
set_option maxRecDepth 100000 in
set_option maxHeartbeats 4000000 in
theorem T_De_place : am_T am_Y am_cl am_Gw am_mi 56 b_De_place := by
  intro E A p l e s m args below meth c Rt X hr
  refine List.forall_mem_cons.mpr ⟨am_iload_n_ok (k := 1) X (by decide +kernel), ?_⟩
  refine List.forall_mem_cons.mpr ⟨am_if_lt_ok (off := 26) X (by decide +kernel) (by decide), ?_⟩
  refine List.forall_mem_cons.mpr ⟨am_iload_n_ok (k := 1) X (by decide +kernel), ?_⟩
  refine List.forall_mem_cons.mpr ⟨am_aload_n_ok (k := 0) X (by decide +kernel), ?_⟩
  refine List.forall_mem_cons.mpr ⟨am_get_ok (C := R_De) (T := F_De) (N := 7) (idx := 44) X rfl (by decide) (fun w h => List.mem_cons_of_mem _ (u_De w h)) (List.mem_cons_of_mem _ w_De_44) (by decide +kernel), ?_⟩
  refine List.forall_mem_cons.mpr ⟨am_get_ok (C := R_Ro) (T := F_Ro) (N := 4) (idx := 86) X rfl (by decide) (fun w h => List.mem_cons_of_mem _ (u_Ro w h)) (List.mem_cons_of_mem _ w_De_86) (by decide +kernel), ?_⟩
  refine List.forall_mem_cons.mpr ⟨am_icmp_ge_ok (off := 15) X (by decide +kernel) (by decide), ?_⟩
  refine List.forall_mem_cons.mpr ⟨am_aload_n_ok (k := 0) X (by decide +kernel), ?_⟩
  refine List.forall_mem_cons.mpr ⟨am_get_ok (C := R_De) (T := F_De) (N := 7) (idx := 44) X rfl (by decide) (fun w h => List.mem_cons_of_mem _ (u_De w h)) (List.mem_cons_of_mem _ w_De_44) (by decide +kernel), ?_⟩
  refine List.forall_mem_cons.mpr ⟨am_get_ok (C := R_Ro) (T := F_Ro) (N := 4) (idx := 169) X rfl (by decide) (fun w h => List.mem_cons_of_mem _ (u_Ro w h)) (List.mem_cons_of_mem _ w_De_169) (by decide +kernel), ?_⟩
  refine List.forall_mem_cons.mpr ⟨am_iload_n_ok (k := 1) X (by decide +kernel), ?_⟩
  refine List.forall_mem_cons.mpr ⟨am_iald_ok X am_Y0 (by decide +kernel), ?_⟩
  refine List.forall_mem_cons.mpr ⟨am_goto_ok (off := 4) X (by decide +kernel) (by decide), ?_⟩
  refine List.forall_mem_cons.mpr ⟨am_iconst_ok X (by decide +kernel), ?_⟩
  refine List.forall_mem_cons.mpr ⟨am_ret_ok X hr (by decide +kernel), ?_⟩
  exact fun _ h => absurd h List.not_mem_nil
abbrev b_Ro_reverse : AT := [(0, am_ild 1 1), (1, am_ist 3 1), (2, am_ild 2 1), (3, am_ist 4 2), (5, am_ild 4 2), (7, am_ild 3 1), (8, am_icmp 5 50), (11, am_ald 0 1), (12, am_get am_Y 5 1), (15, am_ild 3 1), (16, am_iald am_Y), (17, am_ist 5 2), (19, am_ald 0 1), (20, am_get am_Y 5 1), (23, am_ild 3 1), (24, am_ald 0 1), (25, am_get am_Y 5 1), (28, am_ild 4 2), (30, am_iald am_Y), (31, am_iast am_Y), (32, am_ald 0 1), (33, am_get am_Y 5 1), (36, am_ild 4 2), (38, am_ild 5 2), (40, am_iast am_Y), (41, am_inc 3 (1)), (44, am_inc 4 (-1)), (47, am_goto 5), (50, am_ald 0 1), (51, am_dup), (52, am_get am_Y 5 3), (55, am_ic 1 1), (56, am_iadd), (57, am_put am_Y 5 3), (60, am_vret)]
set_option maxRecDepth 100000 in
set_option maxHeartbeats 4000000 in
theorem T_Ro_reverse : am_T am_Y am_cl am_Gw am_mi 57 b_Ro_reverse := by
  intro E A p l e s m args below meth c Rt X hr
  refine List.forall_mem_cons.mpr ⟨am_iload_n_ok (k := 1) X (by decide +kernel), ?_⟩
  refine List.forall_mem_cons.mpr ⟨am_istore_n_ok (k := 3) X (by decide) (by decide +kernel), ?_⟩
  refine List.forall_mem_cons.mpr ⟨am_iload_n_ok (k := 2) X (by decide +kernel), ?_⟩
  refine List.forall_mem_cons.mpr ⟨am_istore_ok X (by decide) (by decide +kernel), ?_⟩
  refine List.forall_mem_cons.mpr ⟨am_iload_ok X (by decide +kernel), ?_⟩
  refine List.forall_mem_cons.mpr ⟨am_iload_n_ok (k := 3) X (by decide +kernel), ?_⟩
  refine List.forall_mem_cons.mpr ⟨am_icmp_le_ok (off := 42) X (by decide +kernel) (by decide), ?_⟩
  refine List.forall_mem_cons.mpr ⟨am_aload_n_ok (k := 0) X (by decide +kernel), ?_⟩
  refine List.forall_mem_cons.mpr ⟨am_get_ok (C := R_Ro) (T := F_Ro) (N := 4) (idx := 9) X rfl (by decide) (fun w h => List.mem_cons_of_mem _ (u_Ro w h)) (List.mem_cons_of_mem _ w_Ro_9) (by decide +kernel), ?_⟩
  refine List.forall_mem_cons.mpr ⟨am_iload_n_ok (k := 3) X (by decide +kernel), ?_⟩
  refine List.forall_mem_cons.mpr ⟨am_iald_ok X am_Y0 (by decide +kernel), ?_⟩
  refine List.forall_mem_cons.mpr ⟨am_istore_ok X (by decide) (by decide +kernel), ?_⟩
  refine List.forall_mem_cons.mpr ⟨am_aload_n_ok (k := 0) X (by decide +kernel), ?_⟩
  refine List.forall_mem_cons.mpr ⟨am_get_ok (C := R_Ro) (T := F_Ro) (N := 4) (idx := 9) X rfl (by decide) (fun w h => List.mem_cons_of_mem _ (u_Ro w h)) (List.mem_cons_of_mem _ w_Ro_9) (by decide +kernel), ?_⟩
  refine List.forall_mem_cons.mpr ⟨am_iload_n_ok (k := 3) X (by decide +kernel), ?_⟩
  refine List.forall_mem_cons.mpr ⟨am_aload_n_ok (k := 0) X (by decide +kernel), ?_⟩
  refine List.forall_mem_cons.mpr ⟨am_get_ok (C := R_Ro) (T := F_Ro) (N := 4) (idx := 9) X rfl (by decide) (fun w h => List.mem_cons_of_mem _ (u_Ro w h)) (List.mem_cons_of_mem _ w_Ro_9) (by decide +kernel), ?_⟩
  refine List.forall_mem_cons.mpr ⟨am_iload_ok X (by decide +kernel), ?_⟩
  refine List.forall_mem_cons.mpr ⟨am_iald_ok X am_Y0 (by decide +kernel), ?_⟩
  refine List.forall_mem_cons.mpr ⟨am_iast_ok X am_Y0 (by decide +kernel), ?_⟩
  refine List.forall_mem_cons.mpr ⟨am_aload_n_ok (k := 0) X (by decide +kernel), ?_⟩
  refine List.forall_mem_cons.mpr ⟨am_get_ok (C := R_Ro) (T := F_Ro) (N := 4) (idx := 9) X rfl (by decide) (fun w h => List.mem_cons_of_mem _ (u_Ro w h)) (List.mem_cons_of_mem _ w_Ro_9) (by decide +kernel), ?_⟩
  refine List.forall_mem_cons.mpr ⟨am_iload_ok X (by decide +kernel), ?_⟩
  refine List.forall_mem_cons.mpr ⟨am_iload_ok X (by decide +kernel), ?_⟩
  refine List.forall_mem_cons.mpr ⟨am_iast_ok X am_Y0 (by decide +kernel), ?_⟩
  refine List.forall_mem_cons.mpr ⟨am_iinc_ok X (by decide) (by decide +kernel), ?_⟩
  refine List.forall_mem_cons.mpr ⟨am_iinc_ok X (by decide) (by decide +kernel), ?_⟩
  refine List.forall_mem_cons.mpr ⟨am_goto_ok (off := -42) X (by decide +kernel) (by decide), ?_⟩
  refine List.forall_mem_cons.mpr ⟨am_aload_n_ok (k := 0) X (by decide +kernel), ?_⟩
  refine List.forall_mem_cons.mpr ⟨am_dup_ok X (by decide +kernel), ?_⟩
  refine List.forall_mem_cons.mpr ⟨am_get_ok (C := R_Ro) (T := F_Ro) (N := 4) (idx := 19) X rfl (by decide) (fun w h => List.mem_cons_of_mem _ (u_Ro w h)) (List.mem_cons_of_mem _ w_Ro_19) (by decide +kernel), ?_⟩
  refine List.forall_mem_cons.mpr ⟨am_iconst_ok X (by decide +kernel), ?_⟩
  refine List.forall_mem_cons.mpr ⟨am_iadd_ok X (by decide +kernel), ?_⟩
  refine List.forall_mem_cons.mpr ⟨am_put_ok (C := R_Ro) (T := F_Ro) (N := 4) (idx := 19) X rfl (by decide) (fun w h => List.mem_cons_of_mem _ (u_Ro w h)) t_Ro_ok n_Ro rfl (by decide +kernel) (List.mem_cons_of_mem _ w_Ro_19) (by decide +kernel), ?_⟩
  refine List.forall_mem_cons.mpr ⟨am_vret_ok X hr (by decide +kernel), ?_⟩
  exact fun _ h => absurd h List.not_mem_nil
abbrev b_De_turn : AT := [(0, am_ild 1 1), (1, am_if 2 20), (4, am_ild 1 1), (5, am_ild 2 1), (6, am_icmp 4 20), (9, am_ild 2 1), (10, am_ald 0 1), (11, am_get am_Y 8 4), (14, am_get am_Y 5 2), (17, am_icmp 2 30), (30, am_ald 0 1), (31, am_get am_Y 8 4), (34, am_ild 1 1), (35, am_ild 2 1), (36, am_callV am_Y 5 57 2), (39, am_vret)]
set_option maxRecDepth 100000 in
set_option maxHeartbeats 4000000 in
theorem T_De_turn : am_T am_Y am_cl am_Gw am_mi 58 b_De_turn := by
  intro E A p l e s m args below meth c Rt X hr
  refine List.forall_mem_cons.mpr ⟨am_iload_n_ok (k := 1) X (by decide +kernel), ?_⟩
  refine List.forall_mem_cons.mpr ⟨am_if_lt_ok (off := 19) X (by decide +kernel) (by decide), ?_⟩
  refine List.forall_mem_cons.mpr ⟨am_iload_n_ok (k := 1) X (by decide +kernel), ?_⟩
  refine List.forall_mem_cons.mpr ⟨am_iload_n_ok (k := 2) X (by decide +kernel), ?_⟩
  refine List.forall_mem_cons.mpr ⟨am_icmp_gt_ok (off := 14) X (by decide +kernel) (by decide), ?_⟩
  refine List.forall_mem_cons.mpr ⟨am_iload_n_ok (k := 2) X (by decide +kernel), ?_⟩
  refine List.forall_mem_cons.mpr ⟨am_aload_n_ok (k := 0) X (by decide +kernel), ?_⟩
  refine List.forall_mem_cons.mpr ⟨am_get_ok (C := R_De) (T := F_De) (N := 7) (idx := 44) X rfl (by decide) (fun w h => List.mem_cons_of_mem _ (u_De w h)) (List.mem_cons_of_mem _ w_De_44) (by decide +kernel), ?_⟩
  refine List.forall_mem_cons.mpr ⟨am_get_ok (C := R_Ro) (T := F_Ro) (N := 4) (idx := 86) X rfl (by decide) (fun w h => List.mem_cons_of_mem _ (u_Ro w h)) (List.mem_cons_of_mem _ w_De_86) (by decide +kernel), ?_⟩
  refine List.forall_mem_cons.mpr ⟨am_icmp_lt_ok (off := 13) X (by decide +kernel) (by decide), ?_⟩
  refine List.forall_mem_cons.mpr ⟨am_aload_n_ok (k := 0) X (by decide +kernel), ?_⟩
  refine List.forall_mem_cons.mpr ⟨am_get_ok (C := R_De) (T := F_De) (N := 7) (idx := 44) X rfl (by decide) (fun w h => List.mem_cons_of_mem _ (u_De w h)) (List.mem_cons_of_mem _ w_De_44) (by decide +kernel), ?_⟩
  refine List.forall_mem_cons.mpr ⟨am_iload_n_ok (k := 1) X (by decide +kernel), ?_⟩
  refine List.forall_mem_cons.mpr ⟨am_iload_n_ok (k := 2) X (by decide +kernel), ?_⟩
  refine List.forall_mem_cons.mpr ⟨am_callV_ok (C := R_Ro) (T := F_Ro) (N := 4) (idx := 174) X rfl (am_GV m_De_174 v_Ro_reverse.1 v_Ro_reverse.2.1 v_Ro_reverse.2.2.1 v_Ro_reverse.2.2.2) ⟨rfl, v_Ro_reversed⟩ ⟨by decide, by decide⟩ (Nat.zero_le _) (by decide +kernel), ?_⟩
  refine List.forall_mem_cons.mpr ⟨am_vret_ok X hr (by decide +kernel), ?_⟩
  exact fun _ h => absurd h List.not_mem_nil
abbrev b_Ro_placeAfter : AT := [(0, am_ild 1 1), (1, am_ic 1 1), (2, am_iadd), (3, am_ald 0 1), (4, am_get am_Y 5 2), (7, am_icmp 3 16), (10, am_ild 1 1), (11, am_ic 1 1), (12, am_iadd), (13, am_goto 17), (16, am_ic 0 1), (17, am_ret)]
set_option maxRecDepth 100000 in
set_option maxHeartbeats 4000000 in
theorem T_Ro_placeAfter : am_T am_Y am_cl am_Gw am_mi 59 b_Ro_placeAfter := by
  intro E A p l e s m args below meth c Rt X hr
  refine List.forall_mem_cons.mpr ⟨am_iload_n_ok (k := 1) X (by decide +kernel), ?_⟩
  refine List.forall_mem_cons.mpr ⟨am_iconst_ok X (by decide +kernel), ?_⟩
  refine List.forall_mem_cons.mpr ⟨am_iadd_ok X (by decide +kernel), ?_⟩
  refine List.forall_mem_cons.mpr ⟨am_aload_n_ok (k := 0) X (by decide +kernel), ?_⟩
  refine List.forall_mem_cons.mpr ⟨am_get_ok (C := R_Ro) (T := F_Ro) (N := 4) (idx := 15) X rfl (by decide) (fun w h => List.mem_cons_of_mem _ (u_Ro w h)) (List.mem_cons_of_mem _ w_Ro_15) (by decide +kernel), ?_⟩
  refine List.forall_mem_cons.mpr ⟨am_icmp_ge_ok (off := 9) X (by decide +kernel) (by decide), ?_⟩
  refine List.forall_mem_cons.mpr ⟨am_iload_n_ok (k := 1) X (by decide +kernel), ?_⟩
  refine List.forall_mem_cons.mpr ⟨am_iconst_ok X (by decide +kernel), ?_⟩
  refine List.forall_mem_cons.mpr ⟨am_iadd_ok X (by decide +kernel), ?_⟩
  refine List.forall_mem_cons.mpr ⟨am_goto_ok (off := 4) X (by decide +kernel) (by decide), ?_⟩
  refine List.forall_mem_cons.mpr ⟨am_iconst_ok X (by decide +kernel), ?_⟩
  refine List.forall_mem_cons.mpr ⟨am_ret_ok X hr (by decide +kernel), ?_⟩
  exact fun _ h => absurd h List.not_mem_nil
abbrev b_Ro_pointAfter : AT := [(0, am_ald 0 1), (1, am_get am_Y 5 1), (4, am_ald 0 1), (5, am_ild 1 1), (6, am_callV am_Y 5 59 1), (9, am_iald am_Y), (10, am_ret)]
set_option maxRecDepth 100000 in
set_option maxHeartbeats 4000000 in
theorem T_Ro_pointAfter : am_T am_Y am_cl am_Gw am_mi 60 b_Ro_pointAfter := by
  intro E A p l e s m args below meth c Rt X hr
  refine List.forall_mem_cons.mpr ⟨am_aload_n_ok (k := 0) X (by decide +kernel), ?_⟩
  refine List.forall_mem_cons.mpr ⟨am_get_ok (C := R_Ro) (T := F_Ro) (N := 4) (idx := 9) X rfl (by decide) (fun w h => List.mem_cons_of_mem _ (u_Ro w h)) (List.mem_cons_of_mem _ w_Ro_9) (by decide +kernel), ?_⟩
  refine List.forall_mem_cons.mpr ⟨am_aload_n_ok (k := 0) X (by decide +kernel), ?_⟩
  refine List.forall_mem_cons.mpr ⟨am_iload_n_ok (k := 1) X (by decide +kernel), ?_⟩
  refine List.forall_mem_cons.mpr ⟨am_callV_ok (C := R_Ro) (T := F_Ro) (N := 4) (idx := 26) X rfl (am_GV m_Ro_26 v_Ro_placeAfter.1 v_Ro_placeAfter.2.1 v_Ro_placeAfter.2.2.1 v_Ro_placeAfter.2.2.2) ⟨rfl, v_Ro_placeAfterd⟩ ⟨by decide, by decide⟩ (Nat.zero_le _) (by decide +kernel), ?_⟩
  refine List.forall_mem_cons.mpr ⟨am_iald_ok X am_Y0 (by decide +kernel), ?_⟩
  refine List.forall_mem_cons.mpr ⟨am_ret_ok X hr (by decide +kernel), ?_⟩
  exact fun _ h => absurd h List.not_mem_nil
abbrev b_Cr_foldsBack : AT := [(0, am_ald 0 1), (1, am_get am_Y 0 1), (4, am_get am_Y 5 1), (7, am_ild 2 1), (8, am_iald am_Y), (9, am_ist 3 1), (10, am_ald 0 1), (11, am_get am_Y 0 1), (14, am_get am_Y 5 1), (17, am_ild 1 1), (18, am_iald am_Y), (19, am_ist 4 2), (21, am_ald 0 1), (22, am_get am_Y 0 1), (25, am_ild 2 1), (26, am_callV am_Y 5 60 1), (29, am_ist 5 2), (31, am_ald 0 1), (32, am_get am_Y 0 0), (35, am_ild 3 1), (36, am_ild 4 2), (38, am_ild 5 2), (40, am_callV am_Y 4 11 3), (43, am_lc 0 1), (44, am_lcmp 1 69), (48, am_ald 0 1), (49, am_get am_Y 0 0), (52, am_ild 3 1), (53, am_ild 4 2), (55, am_ild 5 2), (57, am_callV am_Y 4 17 3), (60, am_lc 0 1), (61, am_lcmp 5 69), (65, am_ic 1 1), (66, am_goto 70), (69, am_ic 0 1), (70, am_zret)]
set_option maxRecDepth 100000 in
set_option maxHeartbeats 4000000 in
theorem T_Cr_foldsBack : am_T am_Y am_cl am_Gw am_mi 61 b_Cr_foldsBack := by
  intro E A p l e s m args below meth c Rt X hr
  refine List.forall_mem_cons.mpr ⟨am_aload_n_ok (k := 0) X (by decide +kernel), ?_⟩
  refine List.forall_mem_cons.mpr ⟨am_get_ok (C := R_Cr) (T := F_Cr) (N := 6) (idx := 30) X rfl (by decide) (fun w h => List.mem_cons_of_mem _ (u_Cr w h)) (List.mem_cons_of_mem _ w_Cr_30) (by decide +kernel), ?_⟩
  refine List.forall_mem_cons.mpr ⟨am_get_ok (C := R_Ro) (T := F_Ro) (N := 4) (idx := 53) X rfl (by decide) (fun w h => List.mem_cons_of_mem _ (u_Ro w h)) (List.mem_cons_of_mem _ w_Cr_53) (by decide +kernel), ?_⟩
  refine List.forall_mem_cons.mpr ⟨am_iload_n_ok (k := 2) X (by decide +kernel), ?_⟩
  refine List.forall_mem_cons.mpr ⟨am_iald_ok X am_Y0 (by decide +kernel), ?_⟩
  refine List.forall_mem_cons.mpr ⟨am_istore_n_ok (k := 3) X (by decide) (by decide +kernel), ?_⟩
  refine List.forall_mem_cons.mpr ⟨am_aload_n_ok (k := 0) X (by decide +kernel), ?_⟩
  refine List.forall_mem_cons.mpr ⟨am_get_ok (C := R_Cr) (T := F_Cr) (N := 6) (idx := 30) X rfl (by decide) (fun w h => List.mem_cons_of_mem _ (u_Cr w h)) (List.mem_cons_of_mem _ w_Cr_30) (by decide +kernel), ?_⟩
  refine List.forall_mem_cons.mpr ⟨am_get_ok (C := R_Ro) (T := F_Ro) (N := 4) (idx := 53) X rfl (by decide) (fun w h => List.mem_cons_of_mem _ (u_Ro w h)) (List.mem_cons_of_mem _ w_Cr_53) (by decide +kernel), ?_⟩
  refine List.forall_mem_cons.mpr ⟨am_iload_n_ok (k := 1) X (by decide +kernel), ?_⟩
  refine List.forall_mem_cons.mpr ⟨am_iald_ok X am_Y0 (by decide +kernel), ?_⟩
  refine List.forall_mem_cons.mpr ⟨am_istore_ok X (by decide) (by decide +kernel), ?_⟩
  refine List.forall_mem_cons.mpr ⟨am_aload_n_ok (k := 0) X (by decide +kernel), ?_⟩
  refine List.forall_mem_cons.mpr ⟨am_get_ok (C := R_Cr) (T := F_Cr) (N := 6) (idx := 30) X rfl (by decide) (fun w h => List.mem_cons_of_mem _ (u_Cr w h)) (List.mem_cons_of_mem _ w_Cr_30) (by decide +kernel), ?_⟩
  refine List.forall_mem_cons.mpr ⟨am_iload_n_ok (k := 2) X (by decide +kernel), ?_⟩
  refine List.forall_mem_cons.mpr ⟨am_callV_ok (C := R_Ro) (T := F_Ro) (N := 4) (idx := 56) X rfl (am_GV m_Cr_56 v_Ro_pointAfter.1 v_Ro_pointAfter.2.1 v_Ro_pointAfter.2.2.1 v_Ro_pointAfter.2.2.2) ⟨rfl, v_Ro_pointAfterd⟩ ⟨by decide, by decide⟩ (Nat.zero_le _) (by decide +kernel), ?_⟩
  refine List.forall_mem_cons.mpr ⟨am_istore_ok X (by decide) (by decide +kernel), ?_⟩
  refine List.forall_mem_cons.mpr ⟨am_aload_n_ok (k := 0) X (by decide +kernel), ?_⟩
  refine List.forall_mem_cons.mpr ⟨am_get_ok (C := R_Cr) (T := F_Cr) (N := 6) (idx := 26) X rfl (by decide) (fun w h => List.mem_cons_of_mem _ (u_Cr w h)) (List.mem_cons_of_mem _ w_Cr_26) (by decide +kernel), ?_⟩
  refine List.forall_mem_cons.mpr ⟨am_iload_n_ok (k := 3) X (by decide +kernel), ?_⟩
  refine List.forall_mem_cons.mpr ⟨am_iload_ok X (by decide +kernel), ?_⟩
  refine List.forall_mem_cons.mpr ⟨am_iload_ok X (by decide +kernel), ?_⟩
  refine List.forall_mem_cons.mpr ⟨am_callV_ok (C := R_Po) (T := F_Po) (N := 4) (idx := 65) X rfl (am_GV m_Cr_65 v_Po_crossProduct.1 v_Po_crossProduct.2.1 v_Po_crossProduct.2.2.1 v_Po_crossProduct.2.2.2) ⟨rfl, v_Po_crossProductd⟩ ⟨by decide, by decide⟩ (Nat.zero_le _) (by decide +kernel), ?_⟩
  refine List.forall_mem_cons.mpr ⟨am_lconst_ok (n := 0) X (by decide +kernel), ?_⟩
  refine List.forall_mem_cons.mpr ⟨am_lcmp_ne_ok (off := 24) X (by decide +kernel) (by decide +kernel) (by decide), ?_⟩
  refine List.forall_mem_cons.mpr ⟨am_aload_n_ok (k := 0) X (by decide +kernel), ?_⟩
  refine List.forall_mem_cons.mpr ⟨am_get_ok (C := R_Cr) (T := F_Cr) (N := 6) (idx := 26) X rfl (by decide) (fun w h => List.mem_cons_of_mem _ (u_Cr w h)) (List.mem_cons_of_mem _ w_Cr_26) (by decide +kernel), ?_⟩
  refine List.forall_mem_cons.mpr ⟨am_iload_n_ok (k := 3) X (by decide +kernel), ?_⟩
  refine List.forall_mem_cons.mpr ⟨am_iload_ok X (by decide +kernel), ?_⟩
  refine List.forall_mem_cons.mpr ⟨am_iload_ok X (by decide +kernel), ?_⟩
  refine List.forall_mem_cons.mpr ⟨am_callV_ok (C := R_Po) (T := F_Po) (N := 4) (idx := 69) X rfl (am_GV m_Cr_69 v_Po_dotProduct.1 v_Po_dotProduct.2.1 v_Po_dotProduct.2.2.1 v_Po_dotProduct.2.2.2) ⟨rfl, v_Po_dotProductd⟩ ⟨by decide, by decide⟩ (Nat.zero_le _) (by decide +kernel), ?_⟩
  refine List.forall_mem_cons.mpr ⟨am_lconst_ok (n := 0) X (by decide +kernel), ?_⟩
  refine List.forall_mem_cons.mpr ⟨am_lcmp_le_ok (off := 7) X (by decide +kernel) (by decide +kernel) (by decide), ?_⟩
  refine List.forall_mem_cons.mpr ⟨am_iconst_ok X (by decide +kernel), ?_⟩
  refine List.forall_mem_cons.mpr ⟨am_goto_ok (off := 4) X (by decide +kernel) (by decide), ?_⟩
  refine List.forall_mem_cons.mpr ⟨am_iconst_ok X (by decide +kernel), ?_⟩
  refine List.forall_mem_cons.mpr ⟨am_zret_ok X hr (by decide +kernel), ?_⟩
  exact fun _ h => absurd h List.not_mem_nil
abbrev b_Po_segmentsMeet : AT := [(0, am_ald 0 1), (1, am_ild 1 1), (2, am_ild 2 1), (3, am_ild 3 1), (4, am_callV am_Y 4 51 3), (7, am_ald 0 1), (8, am_ild 1 1), (9, am_ild 2 1), (10, am_ild 4 2), (12, am_callV am_Y 4 51 3), (15, am_imul), (16, am_if 3 23), (19, am_ic 1 1), (20, am_goto 24), (23, am_ic 0 1), (24, am_ist 5 2), (26, am_ald 0 1), (27, am_ild 3 1), (28, am_ild 4 2), (30, am_ild 1 1), (31, am_callV am_Y 4 51 3), (34, am_ald 0 1), (35, am_ild 3 1), (36, am_ild 4 2), (38, am_ild 2 1), (39, am_callV am_Y 4 51 3), (42, am_imul), (43, am_if 3 50), (46, am_ic 1 1), (47, am_goto 51), (50, am_ic 0 1), (51, am_ist 6 2), (53, am_ild 5 2), (55, am_if 0 63), (58, am_ild 6 2), (60, am_if 1 106), (63, am_ald 0 1), (64, am_ild 1 1), (65, am_ild 2 1), (66, am_ild 3 1), (67, am_callV am_Y 4 18 3), (70, am_if 1 106), (73, am_ald 0 1), (74, am_ild 1 1), (75, am_ild 2 1), (76, am_ild 4 2), (78, am_callV am_Y 4 18 3), (81, am_if 1 106), (84, am_ald 0 1), (85, am_ild 3 1), (86, am_ild 4 2), (88, am_ild 1 1), (89, am_callV am_Y 4 18 3), (92, am_if 1 106), (95, am_ald 0 1), (96, am_ild 3 1), (97, am_ild 4 2), (99, am_ild 2 1), (100, am_callV am_Y 4 18 3), (103, am_if 0 110), (106, am_ic 1 1), (107, am_goto 111), (110, am_ic 0 1), (111, am_zret)]
set_option maxRecDepth 100000 in
set_option maxHeartbeats 4000000 in
theorem T_Po_segmentsMeet : am_T am_Y am_cl am_Gw am_mi 62 b_Po_segmentsMeet := by
  intro E A p l e s m args below meth c Rt X hr
  refine List.forall_mem_cons.mpr ⟨am_aload_n_ok (k := 0) X (by decide +kernel), ?_⟩
  refine List.forall_mem_cons.mpr ⟨am_iload_n_ok (k := 1) X (by decide +kernel), ?_⟩
  refine List.forall_mem_cons.mpr ⟨am_iload_n_ok (k := 2) X (by decide +kernel), ?_⟩
  refine List.forall_mem_cons.mpr ⟨am_iload_n_ok (k := 3) X (by decide +kernel), ?_⟩
  refine List.forall_mem_cons.mpr ⟨am_callV_ok (C := R_Po) (T := F_Po) (N := 4) (idx := 32) X rfl (am_GV m_Po_32 v_Po_handOf.1 v_Po_handOf.2.1 v_Po_handOf.2.2.1 v_Po_handOf.2.2.2) ⟨rfl, v_Po_handOfd⟩ ⟨by decide, by decide⟩ (Nat.zero_le _) (by decide +kernel), ?_⟩
  refine List.forall_mem_cons.mpr ⟨am_aload_n_ok (k := 0) X (by decide +kernel), ?_⟩
  refine List.forall_mem_cons.mpr ⟨am_iload_n_ok (k := 1) X (by decide +kernel), ?_⟩
  refine List.forall_mem_cons.mpr ⟨am_iload_n_ok (k := 2) X (by decide +kernel), ?_⟩
  refine List.forall_mem_cons.mpr ⟨am_iload_ok X (by decide +kernel), ?_⟩
  refine List.forall_mem_cons.mpr ⟨am_callV_ok (C := R_Po) (T := F_Po) (N := 4) (idx := 32) X rfl (am_GV m_Po_32 v_Po_handOf.1 v_Po_handOf.2.1 v_Po_handOf.2.2.1 v_Po_handOf.2.2.2) ⟨rfl, v_Po_handOfd⟩ ⟨by decide, by decide⟩ (Nat.zero_le _) (by decide +kernel), ?_⟩
  refine List.forall_mem_cons.mpr ⟨am_imul_ok X (by decide +kernel), ?_⟩
  refine List.forall_mem_cons.mpr ⟨am_if_ge_ok (off := 7) X (by decide +kernel) (by decide), ?_⟩
  refine List.forall_mem_cons.mpr ⟨am_iconst_ok X (by decide +kernel), ?_⟩
  refine List.forall_mem_cons.mpr ⟨am_goto_ok (off := 4) X (by decide +kernel) (by decide), ?_⟩
  refine List.forall_mem_cons.mpr ⟨am_iconst_ok X (by decide +kernel), ?_⟩
  refine List.forall_mem_cons.mpr ⟨am_istore_ok X (by decide) (by decide +kernel), ?_⟩
  refine List.forall_mem_cons.mpr ⟨am_aload_n_ok (k := 0) X (by decide +kernel), ?_⟩
  refine List.forall_mem_cons.mpr ⟨am_iload_n_ok (k := 3) X (by decide +kernel), ?_⟩
  refine List.forall_mem_cons.mpr ⟨am_iload_ok X (by decide +kernel), ?_⟩
  refine List.forall_mem_cons.mpr ⟨am_iload_n_ok (k := 1) X (by decide +kernel), ?_⟩
  refine List.forall_mem_cons.mpr ⟨am_callV_ok (C := R_Po) (T := F_Po) (N := 4) (idx := 32) X rfl (am_GV m_Po_32 v_Po_handOf.1 v_Po_handOf.2.1 v_Po_handOf.2.2.1 v_Po_handOf.2.2.2) ⟨rfl, v_Po_handOfd⟩ ⟨by decide, by decide⟩ (Nat.zero_le _) (by decide +kernel), ?_⟩
  refine List.forall_mem_cons.mpr ⟨am_aload_n_ok (k := 0) X (by decide +kernel), ?_⟩
  refine List.forall_mem_cons.mpr ⟨am_iload_n_ok (k := 3) X (by decide +kernel), ?_⟩
  refine List.forall_mem_cons.mpr ⟨am_iload_ok X (by decide +kernel), ?_⟩
  refine List.forall_mem_cons.mpr ⟨am_iload_n_ok (k := 2) X (by decide +kernel), ?_⟩
  refine List.forall_mem_cons.mpr ⟨am_callV_ok (C := R_Po) (T := F_Po) (N := 4) (idx := 32) X rfl (am_GV m_Po_32 v_Po_handOf.1 v_Po_handOf.2.1 v_Po_handOf.2.2.1 v_Po_handOf.2.2.2) ⟨rfl, v_Po_handOfd⟩ ⟨by decide, by decide⟩ (Nat.zero_le _) (by decide +kernel), ?_⟩
  refine List.forall_mem_cons.mpr ⟨am_imul_ok X (by decide +kernel), ?_⟩
  refine List.forall_mem_cons.mpr ⟨am_if_ge_ok (off := 7) X (by decide +kernel) (by decide), ?_⟩
  refine List.forall_mem_cons.mpr ⟨am_iconst_ok X (by decide +kernel), ?_⟩
  refine List.forall_mem_cons.mpr ⟨am_goto_ok (off := 4) X (by decide +kernel) (by decide), ?_⟩
  refine List.forall_mem_cons.mpr ⟨am_iconst_ok X (by decide +kernel), ?_⟩
  refine List.forall_mem_cons.mpr ⟨am_istore_ok X (by decide) (by decide +kernel), ?_⟩
  refine List.forall_mem_cons.mpr ⟨am_iload_ok X (by decide +kernel), ?_⟩
  refine List.forall_mem_cons.mpr ⟨am_if_eq_ok (off := 8) X (by decide +kernel) (by decide), ?_⟩
  refine List.forall_mem_cons.mpr ⟨am_iload_ok X (by decide +kernel), ?_⟩
  refine List.forall_mem_cons.mpr ⟨am_if_ne_ok (off := 46) X (by decide +kernel) (by decide), ?_⟩
  refine List.forall_mem_cons.mpr ⟨am_aload_n_ok (k := 0) X (by decide +kernel), ?_⟩
  refine List.forall_mem_cons.mpr ⟨am_iload_n_ok (k := 1) X (by decide +kernel), ?_⟩
  refine List.forall_mem_cons.mpr ⟨am_iload_n_ok (k := 2) X (by decide +kernel), ?_⟩
  refine List.forall_mem_cons.mpr ⟨am_iload_n_ok (k := 3) X (by decide +kernel), ?_⟩
  refine List.forall_mem_cons.mpr ⟨am_callV_ok (C := R_Po) (T := F_Po) (N := 4) (idx := 36) X rfl (am_GV m_Po_36 v_Po_isOnSegment.1 v_Po_isOnSegment.2.1 v_Po_isOnSegment.2.2.1 v_Po_isOnSegment.2.2.2) ⟨rfl, v_Po_isOnSegmentd⟩ ⟨by decide, by decide⟩ (Nat.zero_le _) (by decide +kernel), ?_⟩
  refine List.forall_mem_cons.mpr ⟨am_if_ne_ok (off := 36) X (by decide +kernel) (by decide), ?_⟩
  refine List.forall_mem_cons.mpr ⟨am_aload_n_ok (k := 0) X (by decide +kernel), ?_⟩
  refine List.forall_mem_cons.mpr ⟨am_iload_n_ok (k := 1) X (by decide +kernel), ?_⟩
  refine List.forall_mem_cons.mpr ⟨am_iload_n_ok (k := 2) X (by decide +kernel), ?_⟩
  refine List.forall_mem_cons.mpr ⟨am_iload_ok X (by decide +kernel), ?_⟩
  refine List.forall_mem_cons.mpr ⟨am_callV_ok (C := R_Po) (T := F_Po) (N := 4) (idx := 36) X rfl (am_GV m_Po_36 v_Po_isOnSegment.1 v_Po_isOnSegment.2.1 v_Po_isOnSegment.2.2.1 v_Po_isOnSegment.2.2.2) ⟨rfl, v_Po_isOnSegmentd⟩ ⟨by decide, by decide⟩ (Nat.zero_le _) (by decide +kernel), ?_⟩
  refine List.forall_mem_cons.mpr ⟨am_if_ne_ok (off := 25) X (by decide +kernel) (by decide), ?_⟩
  refine List.forall_mem_cons.mpr ⟨am_aload_n_ok (k := 0) X (by decide +kernel), ?_⟩
  refine List.forall_mem_cons.mpr ⟨am_iload_n_ok (k := 3) X (by decide +kernel), ?_⟩
  refine List.forall_mem_cons.mpr ⟨am_iload_ok X (by decide +kernel), ?_⟩
  refine List.forall_mem_cons.mpr ⟨am_iload_n_ok (k := 1) X (by decide +kernel), ?_⟩
  refine List.forall_mem_cons.mpr ⟨am_callV_ok (C := R_Po) (T := F_Po) (N := 4) (idx := 36) X rfl (am_GV m_Po_36 v_Po_isOnSegment.1 v_Po_isOnSegment.2.1 v_Po_isOnSegment.2.2.1 v_Po_isOnSegment.2.2.2) ⟨rfl, v_Po_isOnSegmentd⟩ ⟨by decide, by decide⟩ (Nat.zero_le _) (by decide +kernel), ?_⟩
  refine List.forall_mem_cons.mpr ⟨am_if_ne_ok (off := 14) X (by decide +kernel) (by decide), ?_⟩
  refine List.forall_mem_cons.mpr ⟨am_aload_n_ok (k := 0) X (by decide +kernel), ?_⟩
  refine List.forall_mem_cons.mpr ⟨am_iload_n_ok (k := 3) X (by decide +kernel), ?_⟩
  refine List.forall_mem_cons.mpr ⟨am_iload_ok X (by decide +kernel), ?_⟩
  refine List.forall_mem_cons.mpr ⟨am_iload_n_ok (k := 2) X (by decide +kernel), ?_⟩
  refine List.forall_mem_cons.mpr ⟨am_callV_ok (C := R_Po) (T := F_Po) (N := 4) (idx := 36) X rfl (am_GV m_Po_36 v_Po_isOnSegment.1 v_Po_isOnSegment.2.1 v_Po_isOnSegment.2.2.1 v_Po_isOnSegment.2.2.2) ⟨rfl, v_Po_isOnSegmentd⟩ ⟨by decide, by decide⟩ (Nat.zero_le _) (by decide +kernel), ?_⟩
  refine List.forall_mem_cons.mpr ⟨am_if_eq_ok (off := 7) X (by decide +kernel) (by decide), ?_⟩
  refine List.forall_mem_cons.mpr ⟨am_iconst_ok X (by decide +kernel), ?_⟩
  refine List.forall_mem_cons.mpr ⟨am_goto_ok (off := 4) X (by decide +kernel) (by decide), ?_⟩
  refine List.forall_mem_cons.mpr ⟨am_iconst_ok X (by decide +kernel), ?_⟩
  refine List.forall_mem_cons.mpr ⟨am_zret_ok X hr (by decide +kernel), ?_⟩
  exact fun _ h => absurd h List.not_mem_nil
abbrev b_Cr_doCross : AT := [(0, am_ald 0 1), (1, am_get am_Y 0 1), (4, am_ild 1 1), (5, am_callV am_Y 5 59 1), (8, am_ild 2 1), (9, am_icmp 1 19), (12, am_ald 0 1), (13, am_ild 1 1), (14, am_ild 2 1), (15, am_callV am_Y 0 61 2), (18, am_zret), (19, am_ald 0 1), (20, am_get am_Y 0 1), (23, am_ild 2 1), (24, am_callV am_Y 5 59 1), (27, am_ild 1 1), (28, am_icmp 1 38), (31, am_ald 0 1), (32, am_ild 2 1), (33, am_ild 1 1), (34, am_callV am_Y 0 61 2), (37, am_zret), (38, am_ald 0 1), (39, am_get am_Y 0 0), (42, am_ald 0 1), (43, am_get am_Y 0 1), (46, am_get am_Y 5 1), (49, am_ild 1 1), (50, am_iald am_Y), (51, am_ald 0 1), (52, am_get am_Y 0 1), (55, am_ild 1 1), (56, am_callV am_Y 5 60 1), (59, am_ald 0 1), (60, am_get am_Y 0 1), (63, am_get am_Y 5 1), (66, am_ild 2 1), (67, am_iald am_Y), (68, am_ald 0 1), (69, am_get am_Y 0 1), (72, am_ild 2 1), (73, am_callV am_Y 5 60 1), (76, am_callV am_Y 4 62 4), (79, am_zret)]
set_option maxRecDepth 100000 in
set_option maxHeartbeats 4000000 in
theorem T_Cr_doCross : am_T am_Y am_cl am_Gw am_mi 63 b_Cr_doCross := by
  intro E A p l e s m args below meth c Rt X hr
  refine List.forall_mem_cons.mpr ⟨am_aload_n_ok (k := 0) X (by decide +kernel), ?_⟩
  refine List.forall_mem_cons.mpr ⟨am_get_ok (C := R_Cr) (T := F_Cr) (N := 6) (idx := 30) X rfl (by decide) (fun w h => List.mem_cons_of_mem _ (u_Cr w h)) (List.mem_cons_of_mem _ w_Cr_30) (by decide +kernel), ?_⟩
  refine List.forall_mem_cons.mpr ⟨am_iload_n_ok (k := 1) X (by decide +kernel), ?_⟩
  refine List.forall_mem_cons.mpr ⟨am_callV_ok (C := R_Ro) (T := F_Ro) (N := 4) (idx := 46) X rfl (am_GV m_Cr_46 v_Ro_placeAfter.1 v_Ro_placeAfter.2.1 v_Ro_placeAfter.2.2.1 v_Ro_placeAfter.2.2.2) ⟨rfl, v_Ro_placeAfterd⟩ ⟨by decide, by decide⟩ (Nat.zero_le _) (by decide +kernel), ?_⟩
  refine List.forall_mem_cons.mpr ⟨am_iload_n_ok (k := 2) X (by decide +kernel), ?_⟩
  refine List.forall_mem_cons.mpr ⟨am_icmp_ne_ok (off := 10) X (by decide +kernel) (by decide), ?_⟩
  refine List.forall_mem_cons.mpr ⟨am_aload_n_ok (k := 0) X (by decide +kernel), ?_⟩
  refine List.forall_mem_cons.mpr ⟨am_iload_n_ok (k := 1) X (by decide +kernel), ?_⟩
  refine List.forall_mem_cons.mpr ⟨am_iload_n_ok (k := 2) X (by decide +kernel), ?_⟩
  refine List.forall_mem_cons.mpr ⟨am_callV_ok (C := R_Cr) (T := F_Cr) (N := 6) (idx := 50) X rfl (am_GV m_Cr_50 v_Cr_foldsBack.1 v_Cr_foldsBack.2.1 v_Cr_foldsBack.2.2.1 v_Cr_foldsBack.2.2.2) ⟨rfl, v_Cr_foldsBackd⟩ ⟨by decide, by decide⟩ (Nat.zero_le _) (by decide +kernel), ?_⟩
  refine List.forall_mem_cons.mpr ⟨am_zret_ok X hr (by decide +kernel), ?_⟩
  refine List.forall_mem_cons.mpr ⟨am_aload_n_ok (k := 0) X (by decide +kernel), ?_⟩
  refine List.forall_mem_cons.mpr ⟨am_get_ok (C := R_Cr) (T := F_Cr) (N := 6) (idx := 30) X rfl (by decide) (fun w h => List.mem_cons_of_mem _ (u_Cr w h)) (List.mem_cons_of_mem _ w_Cr_30) (by decide +kernel), ?_⟩
  refine List.forall_mem_cons.mpr ⟨am_iload_n_ok (k := 2) X (by decide +kernel), ?_⟩
  refine List.forall_mem_cons.mpr ⟨am_callV_ok (C := R_Ro) (T := F_Ro) (N := 4) (idx := 46) X rfl (am_GV m_Cr_46 v_Ro_placeAfter.1 v_Ro_placeAfter.2.1 v_Ro_placeAfter.2.2.1 v_Ro_placeAfter.2.2.2) ⟨rfl, v_Ro_placeAfterd⟩ ⟨by decide, by decide⟩ (Nat.zero_le _) (by decide +kernel), ?_⟩
  refine List.forall_mem_cons.mpr ⟨am_iload_n_ok (k := 1) X (by decide +kernel), ?_⟩
  refine List.forall_mem_cons.mpr ⟨am_icmp_ne_ok (off := 10) X (by decide +kernel) (by decide), ?_⟩
  refine List.forall_mem_cons.mpr ⟨am_aload_n_ok (k := 0) X (by decide +kernel), ?_⟩
  refine List.forall_mem_cons.mpr ⟨am_iload_n_ok (k := 2) X (by decide +kernel), ?_⟩
  refine List.forall_mem_cons.mpr ⟨am_iload_n_ok (k := 1) X (by decide +kernel), ?_⟩
  refine List.forall_mem_cons.mpr ⟨am_callV_ok (C := R_Cr) (T := F_Cr) (N := 6) (idx := 50) X rfl (am_GV m_Cr_50 v_Cr_foldsBack.1 v_Cr_foldsBack.2.1 v_Cr_foldsBack.2.2.1 v_Cr_foldsBack.2.2.2) ⟨rfl, v_Cr_foldsBackd⟩ ⟨by decide, by decide⟩ (Nat.zero_le _) (by decide +kernel), ?_⟩
  refine List.forall_mem_cons.mpr ⟨am_zret_ok X hr (by decide +kernel), ?_⟩
  refine List.forall_mem_cons.mpr ⟨am_aload_n_ok (k := 0) X (by decide +kernel), ?_⟩
  refine List.forall_mem_cons.mpr ⟨am_get_ok (C := R_Cr) (T := F_Cr) (N := 6) (idx := 26) X rfl (by decide) (fun w h => List.mem_cons_of_mem _ (u_Cr w h)) (List.mem_cons_of_mem _ w_Cr_26) (by decide +kernel), ?_⟩
  refine List.forall_mem_cons.mpr ⟨am_aload_n_ok (k := 0) X (by decide +kernel), ?_⟩
  refine List.forall_mem_cons.mpr ⟨am_get_ok (C := R_Cr) (T := F_Cr) (N := 6) (idx := 30) X rfl (by decide) (fun w h => List.mem_cons_of_mem _ (u_Cr w h)) (List.mem_cons_of_mem _ w_Cr_30) (by decide +kernel), ?_⟩
  refine List.forall_mem_cons.mpr ⟨am_get_ok (C := R_Ro) (T := F_Ro) (N := 4) (idx := 53) X rfl (by decide) (fun w h => List.mem_cons_of_mem _ (u_Ro w h)) (List.mem_cons_of_mem _ w_Cr_53) (by decide +kernel), ?_⟩
  refine List.forall_mem_cons.mpr ⟨am_iload_n_ok (k := 1) X (by decide +kernel), ?_⟩
  refine List.forall_mem_cons.mpr ⟨am_iald_ok X am_Y0 (by decide +kernel), ?_⟩
  refine List.forall_mem_cons.mpr ⟨am_aload_n_ok (k := 0) X (by decide +kernel), ?_⟩
  refine List.forall_mem_cons.mpr ⟨am_get_ok (C := R_Cr) (T := F_Cr) (N := 6) (idx := 30) X rfl (by decide) (fun w h => List.mem_cons_of_mem _ (u_Cr w h)) (List.mem_cons_of_mem _ w_Cr_30) (by decide +kernel), ?_⟩
  refine List.forall_mem_cons.mpr ⟨am_iload_n_ok (k := 1) X (by decide +kernel), ?_⟩
  refine List.forall_mem_cons.mpr ⟨am_callV_ok (C := R_Ro) (T := F_Ro) (N := 4) (idx := 56) X rfl (am_GV m_Cr_56 v_Ro_pointAfter.1 v_Ro_pointAfter.2.1 v_Ro_pointAfter.2.2.1 v_Ro_pointAfter.2.2.2) ⟨rfl, v_Ro_pointAfterd⟩ ⟨by decide, by decide⟩ (Nat.zero_le _) (by decide +kernel), ?_⟩
  refine List.forall_mem_cons.mpr ⟨am_aload_n_ok (k := 0) X (by decide +kernel), ?_⟩
  refine List.forall_mem_cons.mpr ⟨am_get_ok (C := R_Cr) (T := F_Cr) (N := 6) (idx := 30) X rfl (by decide) (fun w h => List.mem_cons_of_mem _ (u_Cr w h)) (List.mem_cons_of_mem _ w_Cr_30) (by decide +kernel), ?_⟩
  refine List.forall_mem_cons.mpr ⟨am_get_ok (C := R_Ro) (T := F_Ro) (N := 4) (idx := 53) X rfl (by decide) (fun w h => List.mem_cons_of_mem _ (u_Ro w h)) (List.mem_cons_of_mem _ w_Cr_53) (by decide +kernel), ?_⟩
  refine List.forall_mem_cons.mpr ⟨am_iload_n_ok (k := 2) X (by decide +kernel), ?_⟩
  refine List.forall_mem_cons.mpr ⟨am_iald_ok X am_Y0 (by decide +kernel), ?_⟩
  refine List.forall_mem_cons.mpr ⟨am_aload_n_ok (k := 0) X (by decide +kernel), ?_⟩
  refine List.forall_mem_cons.mpr ⟨am_get_ok (C := R_Cr) (T := F_Cr) (N := 6) (idx := 30) X rfl (by decide) (fun w h => List.mem_cons_of_mem _ (u_Cr w h)) (List.mem_cons_of_mem _ w_Cr_30) (by decide +kernel), ?_⟩
  refine List.forall_mem_cons.mpr ⟨am_iload_n_ok (k := 2) X (by decide +kernel), ?_⟩
  refine List.forall_mem_cons.mpr ⟨am_callV_ok (C := R_Ro) (T := F_Ro) (N := 4) (idx := 56) X rfl (am_GV m_Cr_56 v_Ro_pointAfter.1 v_Ro_pointAfter.2.1 v_Ro_pointAfter.2.2.1 v_Ro_pointAfter.2.2.2) ⟨rfl, v_Ro_pointAfterd⟩ ⟨by decide, by decide⟩ (Nat.zero_le _) (by decide +kernel), ?_⟩
  refine List.forall_mem_cons.mpr ⟨am_callV_ok (C := R_Po) (T := F_Po) (N := 4) (idx := 59) X rfl (am_GV m_Cr_59 v_Po_segmentsMeet.1 v_Po_segmentsMeet.2.1 v_Po_segmentsMeet.2.2.1 v_Po_segmentsMeet.2.2.2) ⟨rfl, v_Po_segmentsMeetd⟩ ⟨by decide, by decide⟩ (Nat.zero_le _) (by decide +kernel), ?_⟩
  refine List.forall_mem_cons.mpr ⟨am_zret_ok X hr (by decide +kernel), ?_⟩
  exact fun _ h => absurd h List.not_mem_nil
abbrev b_Ro_pointsAreApart : AT := [(0, am_ic 0 1), (1, am_ist 1 1), (2, am_ild 1 1), (3, am_ald 0 1), (4, am_get am_Y 5 2), (7, am_icmp 3 58), (10, am_ild 1 1), (11, am_ic 1 1), (12, am_iadd), (13, am_ist 2 1), (14, am_ild 2 1), (15, am_ald 0 1), (16, am_get am_Y 5 2), (19, am_icmp 3 52), (22, am_ald 0 1), (23, am_get am_Y 5 0), (26, am_ald 0 1), (27, am_get am_Y 5 1), (30, am_ild 1 1), (31, am_iald am_Y), (32, am_ald 0 1), (33, am_get am_Y 5 1), (36, am_ild 2 1), (37, am_iald am_Y), (38, am_callV am_Y 4 10 2), (41, am_if 0 46), (44, am_ic 0 1), (45, am_zret), (46, am_inc 2 (1)), (49, am_goto 14), (52, am_inc 1 (1)), (55, am_goto 2), (58, am_ic 1 1), (59, am_zret)]
set_option maxRecDepth 100000 in
set_option maxHeartbeats 4000000 in
theorem T_Ro_pointsAreApart : am_T am_Y am_cl am_Gw am_mi 64 b_Ro_pointsAreApart := by
  intro E A p l e s m args below meth c Rt X hr
  refine List.forall_mem_cons.mpr ⟨am_iconst_ok X (by decide +kernel), ?_⟩
  refine List.forall_mem_cons.mpr ⟨am_istore_n_ok (k := 1) X (by decide) (by decide +kernel), ?_⟩
  refine List.forall_mem_cons.mpr ⟨am_iload_n_ok (k := 1) X (by decide +kernel), ?_⟩
  refine List.forall_mem_cons.mpr ⟨am_aload_n_ok (k := 0) X (by decide +kernel), ?_⟩
  refine List.forall_mem_cons.mpr ⟨am_get_ok (C := R_Ro) (T := F_Ro) (N := 4) (idx := 15) X rfl (by decide) (fun w h => List.mem_cons_of_mem _ (u_Ro w h)) (List.mem_cons_of_mem _ w_Ro_15) (by decide +kernel), ?_⟩
  refine List.forall_mem_cons.mpr ⟨am_icmp_ge_ok (off := 51) X (by decide +kernel) (by decide), ?_⟩
  refine List.forall_mem_cons.mpr ⟨am_iload_n_ok (k := 1) X (by decide +kernel), ?_⟩
  refine List.forall_mem_cons.mpr ⟨am_iconst_ok X (by decide +kernel), ?_⟩
  refine List.forall_mem_cons.mpr ⟨am_iadd_ok X (by decide +kernel), ?_⟩
  refine List.forall_mem_cons.mpr ⟨am_istore_n_ok (k := 2) X (by decide) (by decide +kernel), ?_⟩
  refine List.forall_mem_cons.mpr ⟨am_iload_n_ok (k := 2) X (by decide +kernel), ?_⟩
  refine List.forall_mem_cons.mpr ⟨am_aload_n_ok (k := 0) X (by decide +kernel), ?_⟩
  refine List.forall_mem_cons.mpr ⟨am_get_ok (C := R_Ro) (T := F_Ro) (N := 4) (idx := 15) X rfl (by decide) (fun w h => List.mem_cons_of_mem _ (u_Ro w h)) (List.mem_cons_of_mem _ w_Ro_15) (by decide +kernel), ?_⟩
  refine List.forall_mem_cons.mpr ⟨am_icmp_ge_ok (off := 33) X (by decide +kernel) (by decide), ?_⟩
  refine List.forall_mem_cons.mpr ⟨am_aload_n_ok (k := 0) X (by decide +kernel), ?_⟩
  refine List.forall_mem_cons.mpr ⟨am_get_ok (C := R_Ro) (T := F_Ro) (N := 4) (idx := 22) X rfl (by decide) (fun w h => List.mem_cons_of_mem _ (u_Ro w h)) (List.mem_cons_of_mem _ w_Ro_22) (by decide +kernel), ?_⟩
  refine List.forall_mem_cons.mpr ⟨am_aload_n_ok (k := 0) X (by decide +kernel), ?_⟩
  refine List.forall_mem_cons.mpr ⟨am_get_ok (C := R_Ro) (T := F_Ro) (N := 4) (idx := 9) X rfl (by decide) (fun w h => List.mem_cons_of_mem _ (u_Ro w h)) (List.mem_cons_of_mem _ w_Ro_9) (by decide +kernel), ?_⟩
  refine List.forall_mem_cons.mpr ⟨am_iload_n_ok (k := 1) X (by decide +kernel), ?_⟩
  refine List.forall_mem_cons.mpr ⟨am_iald_ok X am_Y0 (by decide +kernel), ?_⟩
  refine List.forall_mem_cons.mpr ⟨am_aload_n_ok (k := 0) X (by decide +kernel), ?_⟩
  refine List.forall_mem_cons.mpr ⟨am_get_ok (C := R_Ro) (T := F_Ro) (N := 4) (idx := 9) X rfl (by decide) (fun w h => List.mem_cons_of_mem _ (u_Ro w h)) (List.mem_cons_of_mem _ w_Ro_9) (by decide +kernel), ?_⟩
  refine List.forall_mem_cons.mpr ⟨am_iload_n_ok (k := 2) X (by decide +kernel), ?_⟩
  refine List.forall_mem_cons.mpr ⟨am_iald_ok X am_Y0 (by decide +kernel), ?_⟩
  refine List.forall_mem_cons.mpr ⟨am_callV_ok (C := R_Po) (T := F_Po) (N := 4) (idx := 30) X rfl (am_GV m_Ro_30 v_Po_areAtOnePlace.1 v_Po_areAtOnePlace.2.1 v_Po_areAtOnePlace.2.2.1 v_Po_areAtOnePlace.2.2.2) ⟨rfl, v_Po_areAtOnePlaced⟩ ⟨by decide, by decide⟩ (Nat.zero_le _) (by decide +kernel), ?_⟩
  refine List.forall_mem_cons.mpr ⟨am_if_eq_ok (off := 5) X (by decide +kernel) (by decide), ?_⟩
  refine List.forall_mem_cons.mpr ⟨am_iconst_ok X (by decide +kernel), ?_⟩
  refine List.forall_mem_cons.mpr ⟨am_zret_ok X hr (by decide +kernel), ?_⟩
  refine List.forall_mem_cons.mpr ⟨am_iinc_ok X (by decide) (by decide +kernel), ?_⟩
  refine List.forall_mem_cons.mpr ⟨am_goto_ok (off := -35) X (by decide +kernel) (by decide), ?_⟩
  refine List.forall_mem_cons.mpr ⟨am_iinc_ok X (by decide) (by decide +kernel), ?_⟩
  refine List.forall_mem_cons.mpr ⟨am_goto_ok (off := -53) X (by decide +kernel) (by decide), ?_⟩
  refine List.forall_mem_cons.mpr ⟨am_iconst_ok X (by decide +kernel), ?_⟩
  refine List.forall_mem_cons.mpr ⟨am_zret_ok X hr (by decide +kernel), ?_⟩
  exact fun _ h => absurd h List.not_mem_nil
abbrev b_Cr_refresh : AT := [(0, am_ald 0 1), (1, am_get am_Y 0 5), (4, am_ald 0 1), (5, am_get am_Y 0 1), (8, am_get am_Y 5 3), (11, am_icmp 1 15), (14, am_vret), (15, am_ald 0 1), (16, am_ic 0 1), (17, am_put am_Y 0 3), (20, am_ald 0 1), (21, am_get am_Y 0 1), (24, am_get am_Y 5 2), (27, am_ic 3 1), (28, am_icmp 3 35), (31, am_ic 0 1), (32, am_goto 42), (35, am_ald 0 1), (36, am_get am_Y 0 1), (39, am_get am_Y 5 2), (42, am_ist 1 1), (43, am_ic 0 1), (44, am_ist 2 1), (45, am_ild 2 1), (46, am_ild 1 1), (47, am_icmp 3 105), (50, am_ild 2 1), (51, am_ic 1 1), (52, am_iadd), (53, am_ist 3 1), (54, am_ild 3 1), (55, am_ild 1 1), (56, am_icmp 3 99), (59, am_ald 0 1), (60, am_ild 2 1), (61, am_ild 3 1), (62, am_callV am_Y 0 63 2), (65, am_if 0 93), (68, am_ald 0 1), (69, am_get am_Y 0 2), (72, am_ald 0 1), (73, am_get am_Y 0 3), (76, am_ic (64) 2), (78, am_ild 2 1), (79, am_imul), (80, am_ild 3 1), (81, am_iadd), (82, am_iast am_Y), (83, am_ald 0 1), (84, am_dup), (85, am_get am_Y 0 3), (88, am_ic 1 1), (89, am_iadd), (90, am_put am_Y 0 3), (93, am_inc 3 (1)), (96, am_goto 54), (99, am_inc 2 (1)), (102, am_goto 45), (105, am_ald 0 1), (106, am_ild 1 1), (107, am_if 5 131), (110, am_ald 0 1), (111, am_get am_Y 0 3), (114, am_if 1 131), (117, am_ald 0 1), (118, am_get am_Y 0 1), (121, am_callV am_Y 5 64 0), (124, am_if 0 131), (127, am_ic 1 1), (128, am_goto 132), (131, am_ic 0 1), (132, am_putz am_Y 0 4), (135, am_ald 0 1), (136, am_ald 0 1), (137, am_get am_Y 0 1), (140, am_get am_Y 5 3), (143, am_put am_Y 0 5), (146, am_vret)]
set_option maxRecDepth 100000 in
set_option maxHeartbeats 4000000 in
theorem T_Cr_refresh : am_T am_Y am_cl am_Gw am_mi 65 b_Cr_refresh := by
  intro E A p l e s m args below meth c Rt X hr
  refine List.forall_mem_cons.mpr ⟨am_aload_n_ok (k := 0) X (by decide +kernel), ?_⟩
  refine List.forall_mem_cons.mpr ⟨am_get_ok (C := R_Cr) (T := F_Cr) (N := 6) (idx := 23) X rfl (by decide) (fun w h => List.mem_cons_of_mem _ (u_Cr w h)) (List.mem_cons_of_mem _ w_Cr_23) (by decide +kernel), ?_⟩
  refine List.forall_mem_cons.mpr ⟨am_aload_n_ok (k := 0) X (by decide +kernel), ?_⟩
  refine List.forall_mem_cons.mpr ⟨am_get_ok (C := R_Cr) (T := F_Cr) (N := 6) (idx := 30) X rfl (by decide) (fun w h => List.mem_cons_of_mem _ (u_Cr w h)) (List.mem_cons_of_mem _ w_Cr_30) (by decide +kernel), ?_⟩
  refine List.forall_mem_cons.mpr ⟨am_get_ok (C := R_Ro) (T := F_Ro) (N := 4) (idx := 34) X rfl (by decide) (fun w h => List.mem_cons_of_mem _ (u_Ro w h)) (List.mem_cons_of_mem _ w_Cr_34) (by decide +kernel), ?_⟩
  refine List.forall_mem_cons.mpr ⟨am_icmp_ne_ok (off := 4) X (by decide +kernel) (by decide), ?_⟩
  refine List.forall_mem_cons.mpr ⟨am_vret_ok X hr (by decide +kernel), ?_⟩
  refine List.forall_mem_cons.mpr ⟨am_aload_n_ok (k := 0) X (by decide +kernel), ?_⟩
  refine List.forall_mem_cons.mpr ⟨am_iconst_ok X (by decide +kernel), ?_⟩
  refine List.forall_mem_cons.mpr ⟨am_put_ok (C := R_Cr) (T := F_Cr) (N := 6) (idx := 15) X rfl (by decide) (fun w h => List.mem_cons_of_mem _ (u_Cr w h)) t_Cr_ok n_Cr rfl (by decide +kernel) (List.mem_cons_of_mem _ w_Cr_15) (by decide +kernel), ?_⟩
  refine List.forall_mem_cons.mpr ⟨am_aload_n_ok (k := 0) X (by decide +kernel), ?_⟩
  refine List.forall_mem_cons.mpr ⟨am_get_ok (C := R_Cr) (T := F_Cr) (N := 6) (idx := 30) X rfl (by decide) (fun w h => List.mem_cons_of_mem _ (u_Cr w h)) (List.mem_cons_of_mem _ w_Cr_30) (by decide +kernel), ?_⟩
  refine List.forall_mem_cons.mpr ⟨am_get_ok (C := R_Ro) (T := F_Ro) (N := 4) (idx := 37) X rfl (by decide) (fun w h => List.mem_cons_of_mem _ (u_Ro w h)) (List.mem_cons_of_mem _ w_Cr_37) (by decide +kernel), ?_⟩
  refine List.forall_mem_cons.mpr ⟨am_iconst_ok X (by decide +kernel), ?_⟩
  refine List.forall_mem_cons.mpr ⟨am_icmp_ge_ok (off := 7) X (by decide +kernel) (by decide), ?_⟩
  refine List.forall_mem_cons.mpr ⟨am_iconst_ok X (by decide +kernel), ?_⟩
  refine List.forall_mem_cons.mpr ⟨am_goto_ok (off := 10) X (by decide +kernel) (by decide), ?_⟩
  refine List.forall_mem_cons.mpr ⟨am_aload_n_ok (k := 0) X (by decide +kernel), ?_⟩
  refine List.forall_mem_cons.mpr ⟨am_get_ok (C := R_Cr) (T := F_Cr) (N := 6) (idx := 30) X rfl (by decide) (fun w h => List.mem_cons_of_mem _ (u_Cr w h)) (List.mem_cons_of_mem _ w_Cr_30) (by decide +kernel), ?_⟩
  refine List.forall_mem_cons.mpr ⟨am_get_ok (C := R_Ro) (T := F_Ro) (N := 4) (idx := 37) X rfl (by decide) (fun w h => List.mem_cons_of_mem _ (u_Ro w h)) (List.mem_cons_of_mem _ w_Cr_37) (by decide +kernel), ?_⟩
  refine List.forall_mem_cons.mpr ⟨am_istore_n_ok (k := 1) X (by decide) (by decide +kernel), ?_⟩
  refine List.forall_mem_cons.mpr ⟨am_iconst_ok X (by decide +kernel), ?_⟩
  refine List.forall_mem_cons.mpr ⟨am_istore_n_ok (k := 2) X (by decide) (by decide +kernel), ?_⟩
  refine List.forall_mem_cons.mpr ⟨am_iload_n_ok (k := 2) X (by decide +kernel), ?_⟩
  refine List.forall_mem_cons.mpr ⟨am_iload_n_ok (k := 1) X (by decide +kernel), ?_⟩
  refine List.forall_mem_cons.mpr ⟨am_icmp_ge_ok (off := 58) X (by decide +kernel) (by decide), ?_⟩
  refine List.forall_mem_cons.mpr ⟨am_iload_n_ok (k := 2) X (by decide +kernel), ?_⟩
  refine List.forall_mem_cons.mpr ⟨am_iconst_ok X (by decide +kernel), ?_⟩
  refine List.forall_mem_cons.mpr ⟨am_iadd_ok X (by decide +kernel), ?_⟩
  refine List.forall_mem_cons.mpr ⟨am_istore_n_ok (k := 3) X (by decide) (by decide +kernel), ?_⟩
  refine List.forall_mem_cons.mpr ⟨am_iload_n_ok (k := 3) X (by decide +kernel), ?_⟩
  refine List.forall_mem_cons.mpr ⟨am_iload_n_ok (k := 1) X (by decide +kernel), ?_⟩
  refine List.forall_mem_cons.mpr ⟨am_icmp_ge_ok (off := 43) X (by decide +kernel) (by decide), ?_⟩
  refine List.forall_mem_cons.mpr ⟨am_aload_n_ok (k := 0) X (by decide +kernel), ?_⟩
  refine List.forall_mem_cons.mpr ⟨am_iload_n_ok (k := 2) X (by decide +kernel), ?_⟩
  refine List.forall_mem_cons.mpr ⟨am_iload_n_ok (k := 3) X (by decide +kernel), ?_⟩
  refine List.forall_mem_cons.mpr ⟨am_callV_ok (C := R_Cr) (T := F_Cr) (N := 6) (idx := 38) X rfl (am_GV m_Cr_38 v_Cr_doCross.1 v_Cr_doCross.2.1 v_Cr_doCross.2.2.1 v_Cr_doCross.2.2.2) ⟨rfl, v_Cr_doCrossd⟩ ⟨by decide, by decide⟩ (Nat.zero_le _) (by decide +kernel), ?_⟩
  refine List.forall_mem_cons.mpr ⟨am_if_eq_ok (off := 28) X (by decide +kernel) (by decide), ?_⟩
  refine List.forall_mem_cons.mpr ⟨am_aload_n_ok (k := 0) X (by decide +kernel), ?_⟩
  refine List.forall_mem_cons.mpr ⟨am_get_ok (C := R_Cr) (T := F_Cr) (N := 6) (idx := 9) X rfl (by decide) (fun w h => List.mem_cons_of_mem _ (u_Cr w h)) (List.mem_cons_of_mem _ w_Cr_9) (by decide +kernel), ?_⟩
  refine List.forall_mem_cons.mpr ⟨am_aload_n_ok (k := 0) X (by decide +kernel), ?_⟩
  refine List.forall_mem_cons.mpr ⟨am_get_ok (C := R_Cr) (T := F_Cr) (N := 6) (idx := 15) X rfl (by decide) (fun w h => List.mem_cons_of_mem _ (u_Cr w h)) (List.mem_cons_of_mem _ w_Cr_15) (by decide +kernel), ?_⟩
  refine List.forall_mem_cons.mpr ⟨am_bipush_ok X (by decide +kernel) (by decide), ?_⟩
  refine List.forall_mem_cons.mpr ⟨am_iload_n_ok (k := 2) X (by decide +kernel), ?_⟩
  refine List.forall_mem_cons.mpr ⟨am_imul_ok X (by decide +kernel), ?_⟩
  refine List.forall_mem_cons.mpr ⟨am_iload_n_ok (k := 3) X (by decide +kernel), ?_⟩
  refine List.forall_mem_cons.mpr ⟨am_iadd_ok X (by decide +kernel), ?_⟩
  refine List.forall_mem_cons.mpr ⟨am_iast_ok X am_Y0 (by decide +kernel), ?_⟩
  refine List.forall_mem_cons.mpr ⟨am_aload_n_ok (k := 0) X (by decide +kernel), ?_⟩
  refine List.forall_mem_cons.mpr ⟨am_dup_ok X (by decide +kernel), ?_⟩
  refine List.forall_mem_cons.mpr ⟨am_get_ok (C := R_Cr) (T := F_Cr) (N := 6) (idx := 15) X rfl (by decide) (fun w h => List.mem_cons_of_mem _ (u_Cr w h)) (List.mem_cons_of_mem _ w_Cr_15) (by decide +kernel), ?_⟩
  refine List.forall_mem_cons.mpr ⟨am_iconst_ok X (by decide +kernel), ?_⟩
  refine List.forall_mem_cons.mpr ⟨am_iadd_ok X (by decide +kernel), ?_⟩
  refine List.forall_mem_cons.mpr ⟨am_put_ok (C := R_Cr) (T := F_Cr) (N := 6) (idx := 15) X rfl (by decide) (fun w h => List.mem_cons_of_mem _ (u_Cr w h)) t_Cr_ok n_Cr rfl (by decide +kernel) (List.mem_cons_of_mem _ w_Cr_15) (by decide +kernel), ?_⟩
  refine List.forall_mem_cons.mpr ⟨am_iinc_ok X (by decide) (by decide +kernel), ?_⟩
  refine List.forall_mem_cons.mpr ⟨am_goto_ok (off := -42) X (by decide +kernel) (by decide), ?_⟩
  refine List.forall_mem_cons.mpr ⟨am_iinc_ok X (by decide) (by decide +kernel), ?_⟩
  refine List.forall_mem_cons.mpr ⟨am_goto_ok (off := -57) X (by decide +kernel) (by decide), ?_⟩
  refine List.forall_mem_cons.mpr ⟨am_aload_n_ok (k := 0) X (by decide +kernel), ?_⟩
  refine List.forall_mem_cons.mpr ⟨am_iload_n_ok (k := 1) X (by decide +kernel), ?_⟩
  refine List.forall_mem_cons.mpr ⟨am_if_le_ok (off := 24) X (by decide +kernel) (by decide), ?_⟩
  refine List.forall_mem_cons.mpr ⟨am_aload_n_ok (k := 0) X (by decide +kernel), ?_⟩
  refine List.forall_mem_cons.mpr ⟨am_get_ok (C := R_Cr) (T := F_Cr) (N := 6) (idx := 15) X rfl (by decide) (fun w h => List.mem_cons_of_mem _ (u_Cr w h)) (List.mem_cons_of_mem _ w_Cr_15) (by decide +kernel), ?_⟩
  refine List.forall_mem_cons.mpr ⟨am_if_ne_ok (off := 17) X (by decide +kernel) (by decide), ?_⟩
  refine List.forall_mem_cons.mpr ⟨am_aload_n_ok (k := 0) X (by decide +kernel), ?_⟩
  refine List.forall_mem_cons.mpr ⟨am_get_ok (C := R_Cr) (T := F_Cr) (N := 6) (idx := 30) X rfl (by decide) (fun w h => List.mem_cons_of_mem _ (u_Cr w h)) (List.mem_cons_of_mem _ w_Cr_30) (by decide +kernel), ?_⟩
  refine List.forall_mem_cons.mpr ⟨am_callV_ok (C := R_Ro) (T := F_Ro) (N := 4) (idx := 42) X rfl (am_GV m_Cr_42 v_Ro_pointsAreApart.1 v_Ro_pointsAreApart.2.1 v_Ro_pointsAreApart.2.2.1 v_Ro_pointsAreApart.2.2.2) ⟨rfl, v_Ro_pointsAreApartd⟩ ⟨by decide, by decide⟩ (Nat.zero_le _) (by decide +kernel), ?_⟩
  refine List.forall_mem_cons.mpr ⟨am_if_eq_ok (off := 7) X (by decide +kernel) (by decide), ?_⟩
  refine List.forall_mem_cons.mpr ⟨am_iconst_ok X (by decide +kernel), ?_⟩
  refine List.forall_mem_cons.mpr ⟨am_goto_ok (off := 4) X (by decide +kernel) (by decide), ?_⟩
  refine List.forall_mem_cons.mpr ⟨am_iconst_ok X (by decide +kernel), ?_⟩
  refine List.forall_mem_cons.mpr ⟨am_putz_ok (C := R_Cr) (T := F_Cr) (N := 6) (idx := 19) X rfl (by decide) (fun w h => List.mem_cons_of_mem _ (u_Cr w h)) t_Cr_ok n_Cr rfl (by decide +kernel) (List.mem_cons_of_mem _ w_Cr_19) (by decide +kernel), ?_⟩
  refine List.forall_mem_cons.mpr ⟨am_aload_n_ok (k := 0) X (by decide +kernel), ?_⟩
  refine List.forall_mem_cons.mpr ⟨am_aload_n_ok (k := 0) X (by decide +kernel), ?_⟩
  refine List.forall_mem_cons.mpr ⟨am_get_ok (C := R_Cr) (T := F_Cr) (N := 6) (idx := 30) X rfl (by decide) (fun w h => List.mem_cons_of_mem _ (u_Cr w h)) (List.mem_cons_of_mem _ w_Cr_30) (by decide +kernel), ?_⟩
  refine List.forall_mem_cons.mpr ⟨am_get_ok (C := R_Ro) (T := F_Ro) (N := 4) (idx := 34) X rfl (by decide) (fun w h => List.mem_cons_of_mem _ (u_Ro w h)) (List.mem_cons_of_mem _ w_Cr_34) (by decide +kernel), ?_⟩
  refine List.forall_mem_cons.mpr ⟨am_put_ok (C := R_Cr) (T := F_Cr) (N := 6) (idx := 23) X rfl (by decide) (fun w h => List.mem_cons_of_mem _ (u_Cr w h)) t_Cr_ok n_Cr rfl (by decide +kernel) (List.mem_cons_of_mem _ w_Cr_23) (by decide +kernel), ?_⟩
  refine List.forall_mem_cons.mpr ⟨am_vret_ok X hr (by decide +kernel), ?_⟩
  exact fun _ h => absurd h List.not_mem_nil
abbrev b_De_crossings : AT := [(0, am_ald 0 1), (1, am_get am_Y 8 5), (4, am_callV am_Y 0 65 0), (7, am_ald 0 1), (8, am_get am_Y 8 5), (11, am_get am_Y 0 3), (14, am_ret)]
set_option maxRecDepth 100000 in
set_option maxHeartbeats 4000000 in
theorem T_De_crossings : am_T am_Y am_cl am_Gw am_mi 66 b_De_crossings := by
  intro E A p l e s m args below meth c Rt X hr
  refine List.forall_mem_cons.mpr ⟨am_aload_n_ok (k := 0) X (by decide +kernel), ?_⟩
  refine List.forall_mem_cons.mpr ⟨am_get_ok (C := R_De) (T := F_De) (N := 7) (idx := 53) X rfl (by decide) (fun w h => List.mem_cons_of_mem _ (u_De w h)) (List.mem_cons_of_mem _ w_De_53) (by decide +kernel), ?_⟩
  refine List.forall_mem_cons.mpr ⟨am_callV_ok (C := R_Cr) (T := F_Cr) (N := 6) (idx := 177) X rfl (am_GV m_De_177 v_Cr_refresh.1 v_Cr_refresh.2.1 v_Cr_refresh.2.2.1 v_Cr_refresh.2.2.2) ⟨rfl, v_Cr_refreshd⟩ ⟨by decide, by decide⟩ (Nat.zero_le _) (by decide +kernel), ?_⟩
  refine List.forall_mem_cons.mpr ⟨am_aload_n_ok (k := 0) X (by decide +kernel), ?_⟩
  refine List.forall_mem_cons.mpr ⟨am_get_ok (C := R_De) (T := F_De) (N := 7) (idx := 53) X rfl (by decide) (fun w h => List.mem_cons_of_mem _ (u_De w h)) (List.mem_cons_of_mem _ w_De_53) (by decide +kernel), ?_⟩
  refine List.forall_mem_cons.mpr ⟨am_get_ok (C := R_Cr) (T := F_Cr) (N := 6) (idx := 178) X rfl (by decide) (fun w h => List.mem_cons_of_mem _ (u_Cr w h)) (List.mem_cons_of_mem _ w_De_178) (by decide +kernel), ?_⟩
  refine List.forall_mem_cons.mpr ⟨am_ret_ok X hr (by decide +kernel), ?_⟩
  exact fun _ h => absurd h List.not_mem_nil
abbrev b_De_crossing : AT := [(0, am_ald 0 1), (1, am_get am_Y 8 5), (4, am_callV am_Y 0 65 0), (7, am_ild 1 1), (8, am_if 2 34), (11, am_ild 1 1), (12, am_ald 0 1), (13, am_get am_Y 8 5), (16, am_get am_Y 0 3), (19, am_icmp 3 34), (22, am_ald 0 1), (23, am_get am_Y 8 5), (26, am_get am_Y 0 2), (29, am_ild 1 1), (30, am_iald am_Y), (31, am_goto 35), (34, am_ic (-1) 1), (35, am_ret)]
set_option maxRecDepth 100000 in
set_option maxHeartbeats 4000000 in
theorem T_De_crossing : am_T am_Y am_cl am_Gw am_mi 67 b_De_crossing := by
  intro E A p l e s m args below meth c Rt X hr
  refine List.forall_mem_cons.mpr ⟨am_aload_n_ok (k := 0) X (by decide +kernel), ?_⟩
  refine List.forall_mem_cons.mpr ⟨am_get_ok (C := R_De) (T := F_De) (N := 7) (idx := 53) X rfl (by decide) (fun w h => List.mem_cons_of_mem _ (u_De w h)) (List.mem_cons_of_mem _ w_De_53) (by decide +kernel), ?_⟩
  refine List.forall_mem_cons.mpr ⟨am_callV_ok (C := R_Cr) (T := F_Cr) (N := 6) (idx := 177) X rfl (am_GV m_De_177 v_Cr_refresh.1 v_Cr_refresh.2.1 v_Cr_refresh.2.2.1 v_Cr_refresh.2.2.2) ⟨rfl, v_Cr_refreshd⟩ ⟨by decide, by decide⟩ (Nat.zero_le _) (by decide +kernel), ?_⟩
  refine List.forall_mem_cons.mpr ⟨am_iload_n_ok (k := 1) X (by decide +kernel), ?_⟩
  refine List.forall_mem_cons.mpr ⟨am_if_lt_ok (off := 26) X (by decide +kernel) (by decide), ?_⟩
  refine List.forall_mem_cons.mpr ⟨am_iload_n_ok (k := 1) X (by decide +kernel), ?_⟩
  refine List.forall_mem_cons.mpr ⟨am_aload_n_ok (k := 0) X (by decide +kernel), ?_⟩
  refine List.forall_mem_cons.mpr ⟨am_get_ok (C := R_De) (T := F_De) (N := 7) (idx := 53) X rfl (by decide) (fun w h => List.mem_cons_of_mem _ (u_De w h)) (List.mem_cons_of_mem _ w_De_53) (by decide +kernel), ?_⟩
  refine List.forall_mem_cons.mpr ⟨am_get_ok (C := R_Cr) (T := F_Cr) (N := 6) (idx := 178) X rfl (by decide) (fun w h => List.mem_cons_of_mem _ (u_Cr w h)) (List.mem_cons_of_mem _ w_De_178) (by decide +kernel), ?_⟩
  refine List.forall_mem_cons.mpr ⟨am_icmp_ge_ok (off := 15) X (by decide +kernel) (by decide), ?_⟩
  refine List.forall_mem_cons.mpr ⟨am_aload_n_ok (k := 0) X (by decide +kernel), ?_⟩
  refine List.forall_mem_cons.mpr ⟨am_get_ok (C := R_De) (T := F_De) (N := 7) (idx := 53) X rfl (by decide) (fun w h => List.mem_cons_of_mem _ (u_De w h)) (List.mem_cons_of_mem _ w_De_53) (by decide +kernel), ?_⟩
  refine List.forall_mem_cons.mpr ⟨am_get_ok (C := R_Cr) (T := F_Cr) (N := 6) (idx := 179) X rfl (by decide) (fun w h => List.mem_cons_of_mem _ (u_Cr w h)) (List.mem_cons_of_mem _ w_De_179) (by decide +kernel), ?_⟩
  refine List.forall_mem_cons.mpr ⟨am_iload_n_ok (k := 1) X (by decide +kernel), ?_⟩
  refine List.forall_mem_cons.mpr ⟨am_iald_ok X am_Y0 (by decide +kernel), ?_⟩
  refine List.forall_mem_cons.mpr ⟨am_goto_ok (off := 4) X (by decide +kernel) (by decide), ?_⟩
  refine List.forall_mem_cons.mpr ⟨am_iconst_ok X (by decide +kernel), ?_⟩
  refine List.forall_mem_cons.mpr ⟨am_ret_ok X hr (by decide +kernel), ?_⟩
  exact fun _ h => absurd h List.not_mem_nil
abbrev b_De_isRouteSimple : AT := [(0, am_ald 0 1), (1, am_get am_Y 8 5), (4, am_callV am_Y 0 65 0), (7, am_ald 0 1), (8, am_get am_Y 8 5), (11, am_get am_Y 0 4), (14, am_zret)]
set_option maxRecDepth 100000 in
set_option maxHeartbeats 4000000 in
theorem T_De_isRouteSimple : am_T am_Y am_cl am_Gw am_mi 68 b_De_isRouteSimple := by
  intro E A p l e s m args below meth c Rt X hr
  refine List.forall_mem_cons.mpr ⟨am_aload_n_ok (k := 0) X (by decide +kernel), ?_⟩
  refine List.forall_mem_cons.mpr ⟨am_get_ok (C := R_De) (T := F_De) (N := 7) (idx := 53) X rfl (by decide) (fun w h => List.mem_cons_of_mem _ (u_De w h)) (List.mem_cons_of_mem _ w_De_53) (by decide +kernel), ?_⟩
  refine List.forall_mem_cons.mpr ⟨am_callV_ok (C := R_Cr) (T := F_Cr) (N := 6) (idx := 177) X rfl (am_GV m_De_177 v_Cr_refresh.1 v_Cr_refresh.2.1 v_Cr_refresh.2.2.1 v_Cr_refresh.2.2.2) ⟨rfl, v_Cr_refreshd⟩ ⟨by decide, by decide⟩ (Nat.zero_le _) (by decide +kernel), ?_⟩
  refine List.forall_mem_cons.mpr ⟨am_aload_n_ok (k := 0) X (by decide +kernel), ?_⟩
  refine List.forall_mem_cons.mpr ⟨am_get_ok (C := R_De) (T := F_De) (N := 7) (idx := 53) X rfl (by decide) (fun w h => List.mem_cons_of_mem _ (u_De w h)) (List.mem_cons_of_mem _ w_De_53) (by decide +kernel), ?_⟩
  refine List.forall_mem_cons.mpr ⟨am_get_ok (C := R_Cr) (T := F_Cr) (N := 6) (idx := 204) X rfl (by decide) (fun w h => List.mem_cons_of_mem _ (u_Cr w h)) (List.mem_cons_of_mem _ w_De_204) (by decide +kernel), ?_⟩
  refine List.forall_mem_cons.mpr ⟨am_zret_ok X hr (by decide +kernel), ?_⟩
  exact fun _ h => absurd h List.not_mem_nil
abbrev b_De_simple : AT := [(0, am_ald 0 1), (1, am_callV am_Y 8 68 0), (4, am_if 0 11), (7, am_ic 1 1), (8, am_goto 12), (11, am_ic 0 1), (12, am_ret)]
set_option maxRecDepth 100000 in
set_option maxHeartbeats 4000000 in
theorem T_De_simple : am_T am_Y am_cl am_Gw am_mi 69 b_De_simple := by
  intro E A p l e s m args below meth c Rt X hr
  refine List.forall_mem_cons.mpr ⟨am_aload_n_ok (k := 0) X (by decide +kernel), ?_⟩
  refine List.forall_mem_cons.mpr ⟨am_callV_ok (C := R_De) (T := F_De) (N := 7) (idx := 182) X rfl (am_GV m_De_182 v_De_isRouteSimple.1 v_De_isRouteSimple.2.1 v_De_isRouteSimple.2.2.1 v_De_isRouteSimple.2.2.2) ⟨rfl, v_De_isRouteSimpled⟩ ⟨by decide, by decide⟩ (Nat.zero_le _) (by decide +kernel), ?_⟩
  refine List.forall_mem_cons.mpr ⟨am_if_eq_ok (off := 7) X (by decide +kernel) (by decide), ?_⟩
  refine List.forall_mem_cons.mpr ⟨am_iconst_ok X (by decide +kernel), ?_⟩
  refine List.forall_mem_cons.mpr ⟨am_goto_ok (off := 4) X (by decide +kernel) (by decide), ?_⟩
  refine List.forall_mem_cons.mpr ⟨am_iconst_ok X (by decide +kernel), ?_⟩
  refine List.forall_mem_cons.mpr ⟨am_ret_ok X hr (by decide +kernel), ?_⟩
  exact fun _ h => absurd h List.not_mem_nil
abbrev b_Po_roundProduct : AT := [(0, am_ald 0 1), (1, am_get am_Y 4 0), (4, am_ild 1 1), (5, am_iald am_Y), (6, am_i2l), (7, am_ald 0 1), (8, am_get am_Y 4 1), (11, am_ild 2 1), (12, am_iald am_Y), (13, am_i2l), (14, am_lmul), (15, am_ald 0 1), (16, am_get am_Y 4 0), (19, am_ild 2 1), (20, am_iald am_Y), (21, am_i2l), (22, am_ald 0 1), (23, am_get am_Y 4 1), (26, am_ild 1 1), (27, am_iald am_Y), (28, am_i2l), (29, am_lmul), (30, am_lsub), (31, am_lret)]
set_option maxRecDepth 100000 in
set_option maxHeartbeats 4000000 in
theorem T_Po_roundProduct : am_T am_Y am_cl am_Gw am_mi 70 b_Po_roundProduct := by
  intro E A p l e s m args below meth c Rt X hr
  refine List.forall_mem_cons.mpr ⟨am_aload_n_ok (k := 0) X (by decide +kernel), ?_⟩
  refine List.forall_mem_cons.mpr ⟨am_get_ok (C := R_Po) (T := F_Po) (N := 4) (idx := 9) X rfl (by decide) (fun w h => List.mem_cons_of_mem _ (u_Po w h)) (List.mem_cons_of_mem _ w_Po_9) (by decide +kernel), ?_⟩
  refine List.forall_mem_cons.mpr ⟨am_iload_n_ok (k := 1) X (by decide +kernel), ?_⟩
  refine List.forall_mem_cons.mpr ⟨am_iald_ok X am_Y0 (by decide +kernel), ?_⟩
  refine List.forall_mem_cons.mpr ⟨am_i2l_ok X (by decide +kernel), ?_⟩
  refine List.forall_mem_cons.mpr ⟨am_aload_n_ok (k := 0) X (by decide +kernel), ?_⟩
  refine List.forall_mem_cons.mpr ⟨am_get_ok (C := R_Po) (T := F_Po) (N := 4) (idx := 15) X rfl (by decide) (fun w h => List.mem_cons_of_mem _ (u_Po w h)) (List.mem_cons_of_mem _ w_Po_15) (by decide +kernel), ?_⟩
  refine List.forall_mem_cons.mpr ⟨am_iload_n_ok (k := 2) X (by decide +kernel), ?_⟩
  refine List.forall_mem_cons.mpr ⟨am_iald_ok X am_Y0 (by decide +kernel), ?_⟩
  refine List.forall_mem_cons.mpr ⟨am_i2l_ok X (by decide +kernel), ?_⟩
  refine List.forall_mem_cons.mpr ⟨am_lmul_ok X (by decide +kernel), ?_⟩
  refine List.forall_mem_cons.mpr ⟨am_aload_n_ok (k := 0) X (by decide +kernel), ?_⟩
  refine List.forall_mem_cons.mpr ⟨am_get_ok (C := R_Po) (T := F_Po) (N := 4) (idx := 9) X rfl (by decide) (fun w h => List.mem_cons_of_mem _ (u_Po w h)) (List.mem_cons_of_mem _ w_Po_9) (by decide +kernel), ?_⟩
  refine List.forall_mem_cons.mpr ⟨am_iload_n_ok (k := 2) X (by decide +kernel), ?_⟩
  refine List.forall_mem_cons.mpr ⟨am_iald_ok X am_Y0 (by decide +kernel), ?_⟩
  refine List.forall_mem_cons.mpr ⟨am_i2l_ok X (by decide +kernel), ?_⟩
  refine List.forall_mem_cons.mpr ⟨am_aload_n_ok (k := 0) X (by decide +kernel), ?_⟩
  refine List.forall_mem_cons.mpr ⟨am_get_ok (C := R_Po) (T := F_Po) (N := 4) (idx := 15) X rfl (by decide) (fun w h => List.mem_cons_of_mem _ (u_Po w h)) (List.mem_cons_of_mem _ w_Po_15) (by decide +kernel), ?_⟩
  refine List.forall_mem_cons.mpr ⟨am_iload_n_ok (k := 1) X (by decide +kernel), ?_⟩
  refine List.forall_mem_cons.mpr ⟨am_iald_ok X am_Y0 (by decide +kernel), ?_⟩
  refine List.forall_mem_cons.mpr ⟨am_i2l_ok X (by decide +kernel), ?_⟩
  refine List.forall_mem_cons.mpr ⟨am_lmul_ok X (by decide +kernel), ?_⟩
  refine List.forall_mem_cons.mpr ⟨am_lsub_ok X (by decide +kernel), ?_⟩
  refine List.forall_mem_cons.mpr ⟨am_lret_ok X hr (by decide +kernel), ?_⟩
  exact fun _ h => absurd h List.not_mem_nil
abbrev b_Ro_sumRound : AT := [(0, am_ald 0 1), (1, am_get am_Y 5 2), (4, am_ic 3 1), (5, am_icmp 3 10), (8, am_lc 0 1), (9, am_lret), (10, am_lc 0 1), (11, am_lst 1 1), (12, am_ic 0 1), (13, am_ist 3 1), (14, am_ild 3 1), (15, am_ald 0 1), (16, am_get am_Y 5 2), (19, am_icmp 3 49), (22, am_lld 1 1), (23, am_ald 0 1), (24, am_get am_Y 5 0), (27, am_ald 0 1), (28, am_get am_Y 5 1), (31, am_ild 3 1), (32, am_iald am_Y), (33, am_ald 0 1), (34, am_ild 3 1), (35, am_callV am_Y 5 60 1), (38, am_callV am_Y 4 70 2), (41, am_ladd), (42, am_lst 1 1), (43, am_inc 3 (1)), (46, am_goto 14), (49, am_lld 1 1), (50, am_lret)]
set_option maxRecDepth 100000 in
set_option maxHeartbeats 4000000 in
theorem T_Ro_sumRound : am_T am_Y am_cl am_Gw am_mi 71 b_Ro_sumRound := by
  intro E A p l e s m args below meth c Rt X hr
  refine List.forall_mem_cons.mpr ⟨am_aload_n_ok (k := 0) X (by decide +kernel), ?_⟩
  refine List.forall_mem_cons.mpr ⟨am_get_ok (C := R_Ro) (T := F_Ro) (N := 4) (idx := 15) X rfl (by decide) (fun w h => List.mem_cons_of_mem _ (u_Ro w h)) (List.mem_cons_of_mem _ w_Ro_15) (by decide +kernel), ?_⟩
  refine List.forall_mem_cons.mpr ⟨am_iconst_ok X (by decide +kernel), ?_⟩
  refine List.forall_mem_cons.mpr ⟨am_icmp_ge_ok (off := 5) X (by decide +kernel) (by decide), ?_⟩
  refine List.forall_mem_cons.mpr ⟨am_lconst_ok (n := 0) X (by decide +kernel), ?_⟩
  refine List.forall_mem_cons.mpr ⟨am_lret_ok X hr (by decide +kernel), ?_⟩
  refine List.forall_mem_cons.mpr ⟨am_lconst_ok (n := 0) X (by decide +kernel), ?_⟩
  refine List.forall_mem_cons.mpr ⟨am_lstore_n_ok (k := 1) X (by decide) (by decide +kernel), ?_⟩
  refine List.forall_mem_cons.mpr ⟨am_iconst_ok X (by decide +kernel), ?_⟩
  refine List.forall_mem_cons.mpr ⟨am_istore_n_ok (k := 3) X (by decide) (by decide +kernel), ?_⟩
  refine List.forall_mem_cons.mpr ⟨am_iload_n_ok (k := 3) X (by decide +kernel), ?_⟩
  refine List.forall_mem_cons.mpr ⟨am_aload_n_ok (k := 0) X (by decide +kernel), ?_⟩
  refine List.forall_mem_cons.mpr ⟨am_get_ok (C := R_Ro) (T := F_Ro) (N := 4) (idx := 15) X rfl (by decide) (fun w h => List.mem_cons_of_mem _ (u_Ro w h)) (List.mem_cons_of_mem _ w_Ro_15) (by decide +kernel), ?_⟩
  refine List.forall_mem_cons.mpr ⟨am_icmp_ge_ok (off := 30) X (by decide +kernel) (by decide), ?_⟩
  refine List.forall_mem_cons.mpr ⟨am_lload_n_ok (k := 1) X (by decide +kernel), ?_⟩
  refine List.forall_mem_cons.mpr ⟨am_aload_n_ok (k := 0) X (by decide +kernel), ?_⟩
  refine List.forall_mem_cons.mpr ⟨am_get_ok (C := R_Ro) (T := F_Ro) (N := 4) (idx := 22) X rfl (by decide) (fun w h => List.mem_cons_of_mem _ (u_Ro w h)) (List.mem_cons_of_mem _ w_Ro_22) (by decide +kernel), ?_⟩
  refine List.forall_mem_cons.mpr ⟨am_aload_n_ok (k := 0) X (by decide +kernel), ?_⟩
  refine List.forall_mem_cons.mpr ⟨am_get_ok (C := R_Ro) (T := F_Ro) (N := 4) (idx := 9) X rfl (by decide) (fun w h => List.mem_cons_of_mem _ (u_Ro w h)) (List.mem_cons_of_mem _ w_Ro_9) (by decide +kernel), ?_⟩
  refine List.forall_mem_cons.mpr ⟨am_iload_n_ok (k := 3) X (by decide +kernel), ?_⟩
  refine List.forall_mem_cons.mpr ⟨am_iald_ok X am_Y0 (by decide +kernel), ?_⟩
  refine List.forall_mem_cons.mpr ⟨am_aload_n_ok (k := 0) X (by decide +kernel), ?_⟩
  refine List.forall_mem_cons.mpr ⟨am_iload_n_ok (k := 3) X (by decide +kernel), ?_⟩
  refine List.forall_mem_cons.mpr ⟨am_callV_ok (C := R_Ro) (T := F_Ro) (N := 4) (idx := 36) X rfl (am_GV m_Ro_36 v_Ro_pointAfter.1 v_Ro_pointAfter.2.1 v_Ro_pointAfter.2.2.1 v_Ro_pointAfter.2.2.2) ⟨rfl, v_Ro_pointAfterd⟩ ⟨by decide, by decide⟩ (Nat.zero_le _) (by decide +kernel), ?_⟩
  refine List.forall_mem_cons.mpr ⟨am_callV_ok (C := R_Po) (T := F_Po) (N := 4) (idx := 39) X rfl (am_GV m_Ro_39 v_Po_roundProduct.1 v_Po_roundProduct.2.1 v_Po_roundProduct.2.2.1 v_Po_roundProduct.2.2.2) ⟨rfl, v_Po_roundProductd⟩ ⟨by decide, by decide⟩ (Nat.zero_le _) (by decide +kernel), ?_⟩
  refine List.forall_mem_cons.mpr ⟨am_ladd_ok X (by decide +kernel), ?_⟩
  refine List.forall_mem_cons.mpr ⟨am_lstore_n_ok (k := 1) X (by decide) (by decide +kernel), ?_⟩
  refine List.forall_mem_cons.mpr ⟨am_iinc_ok X (by decide) (by decide +kernel), ?_⟩
  refine List.forall_mem_cons.mpr ⟨am_goto_ok (off := -32) X (by decide +kernel) (by decide), ?_⟩
  refine List.forall_mem_cons.mpr ⟨am_lload_n_ok (k := 1) X (by decide +kernel), ?_⟩
  refine List.forall_mem_cons.mpr ⟨am_lret_ok X hr (by decide +kernel), ?_⟩
  exact fun _ h => absurd h List.not_mem_nil
abbrev b_De_round : AT := [(0, am_ald 0 1), (1, am_get am_Y 8 4), (4, am_callV am_Y 5 71 0), (7, am_lret)]
set_option maxRecDepth 100000 in
set_option maxHeartbeats 4000000 in
theorem T_De_round : am_T am_Y am_cl am_Gw am_mi 72 b_De_round := by
  intro E A p l e s m args below meth c Rt X hr
  refine List.forall_mem_cons.mpr ⟨am_aload_n_ok (k := 0) X (by decide +kernel), ?_⟩
  refine List.forall_mem_cons.mpr ⟨am_get_ok (C := R_De) (T := F_De) (N := 7) (idx := 44) X rfl (by decide) (fun w h => List.mem_cons_of_mem _ (u_De w h)) (List.mem_cons_of_mem _ w_De_44) (by decide +kernel), ?_⟩
  refine List.forall_mem_cons.mpr ⟨am_callV_ok (C := R_Ro) (T := F_Ro) (N := 4) (idx := 186) X rfl (am_GV m_De_186 v_Ro_sumRound.1 v_Ro_sumRound.2.1 v_Ro_sumRound.2.2.1 v_Ro_sumRound.2.2.2) ⟨rfl, v_Ro_sumRoundd⟩ ⟨by decide, by decide⟩ (Nat.zero_le _) (by decide +kernel), ?_⟩
  refine List.forall_mem_cons.mpr ⟨am_lret_ok X hr (by decide +kernel), ?_⟩
  exact fun _ h => absurd h List.not_mem_nil
abbrev b_Po_isSeenFrom : AT := [(0, am_ald 0 1), (1, am_get am_Y 4 1), (4, am_ild 2 1), (5, am_iald am_Y), (6, am_ald 0 1), (7, am_get am_Y 4 1), (10, am_ild 1 1), (11, am_iald am_Y), (12, am_icmp 5 19), (15, am_ic 1 1), (16, am_goto 20), (19, am_ic 0 1), (20, am_ist 4 2), (22, am_ald 0 1), (23, am_get am_Y 4 1), (26, am_ild 3 1), (27, am_iald am_Y), (28, am_ald 0 1), (29, am_get am_Y 4 1), (32, am_ild 1 1), (33, am_iald am_Y), (34, am_icmp 5 41), (37, am_ic 1 1), (38, am_goto 42), (41, am_ic 0 1), (42, am_ist 5 2), (44, am_ild 4 2), (46, am_ild 5 2), (48, am_icmp 1 53), (51, am_ic 0 1), (52, am_zret), (53, am_ald 0 1), (54, am_ild 2 1), (55, am_ild 3 1), (56, am_ild 1 1), (57, am_callV am_Y 4 51 3), (60, am_ild 5 2), (62, am_if 0 69), (65, am_ic 1 1), (66, am_goto 70), (69, am_ic (-1) 1), (70, am_icmp 1 77), (73, am_ic 1 1), (74, am_goto 78), (77, am_ic 0 1), (78, am_zret)]
set_option maxRecDepth 100000 in
set_option maxHeartbeats 4000000 in
theorem T_Po_isSeenFrom : am_T am_Y am_cl am_Gw am_mi 73 b_Po_isSeenFrom := by
  intro E A p l e s m args below meth c Rt X hr
  refine List.forall_mem_cons.mpr ⟨am_aload_n_ok (k := 0) X (by decide +kernel), ?_⟩
  refine List.forall_mem_cons.mpr ⟨am_get_ok (C := R_Po) (T := F_Po) (N := 4) (idx := 15) X rfl (by decide) (fun w h => List.mem_cons_of_mem _ (u_Po w h)) (List.mem_cons_of_mem _ w_Po_15) (by decide +kernel), ?_⟩
  refine List.forall_mem_cons.mpr ⟨am_iload_n_ok (k := 2) X (by decide +kernel), ?_⟩
  refine List.forall_mem_cons.mpr ⟨am_iald_ok X am_Y0 (by decide +kernel), ?_⟩
  refine List.forall_mem_cons.mpr ⟨am_aload_n_ok (k := 0) X (by decide +kernel), ?_⟩
  refine List.forall_mem_cons.mpr ⟨am_get_ok (C := R_Po) (T := F_Po) (N := 4) (idx := 15) X rfl (by decide) (fun w h => List.mem_cons_of_mem _ (u_Po w h)) (List.mem_cons_of_mem _ w_Po_15) (by decide +kernel), ?_⟩
  refine List.forall_mem_cons.mpr ⟨am_iload_n_ok (k := 1) X (by decide +kernel), ?_⟩
  refine List.forall_mem_cons.mpr ⟨am_iald_ok X am_Y0 (by decide +kernel), ?_⟩
  refine List.forall_mem_cons.mpr ⟨am_icmp_le_ok (off := 7) X (by decide +kernel) (by decide), ?_⟩
  refine List.forall_mem_cons.mpr ⟨am_iconst_ok X (by decide +kernel), ?_⟩
  refine List.forall_mem_cons.mpr ⟨am_goto_ok (off := 4) X (by decide +kernel) (by decide), ?_⟩
  refine List.forall_mem_cons.mpr ⟨am_iconst_ok X (by decide +kernel), ?_⟩
  refine List.forall_mem_cons.mpr ⟨am_istore_ok X (by decide) (by decide +kernel), ?_⟩
  refine List.forall_mem_cons.mpr ⟨am_aload_n_ok (k := 0) X (by decide +kernel), ?_⟩
  refine List.forall_mem_cons.mpr ⟨am_get_ok (C := R_Po) (T := F_Po) (N := 4) (idx := 15) X rfl (by decide) (fun w h => List.mem_cons_of_mem _ (u_Po w h)) (List.mem_cons_of_mem _ w_Po_15) (by decide +kernel), ?_⟩
  refine List.forall_mem_cons.mpr ⟨am_iload_n_ok (k := 3) X (by decide +kernel), ?_⟩
  refine List.forall_mem_cons.mpr ⟨am_iald_ok X am_Y0 (by decide +kernel), ?_⟩
  refine List.forall_mem_cons.mpr ⟨am_aload_n_ok (k := 0) X (by decide +kernel), ?_⟩
  refine List.forall_mem_cons.mpr ⟨am_get_ok (C := R_Po) (T := F_Po) (N := 4) (idx := 15) X rfl (by decide) (fun w h => List.mem_cons_of_mem _ (u_Po w h)) (List.mem_cons_of_mem _ w_Po_15) (by decide +kernel), ?_⟩
  refine List.forall_mem_cons.mpr ⟨am_iload_n_ok (k := 1) X (by decide +kernel), ?_⟩
  refine List.forall_mem_cons.mpr ⟨am_iald_ok X am_Y0 (by decide +kernel), ?_⟩
  refine List.forall_mem_cons.mpr ⟨am_icmp_le_ok (off := 7) X (by decide +kernel) (by decide), ?_⟩
  refine List.forall_mem_cons.mpr ⟨am_iconst_ok X (by decide +kernel), ?_⟩
  refine List.forall_mem_cons.mpr ⟨am_goto_ok (off := 4) X (by decide +kernel) (by decide), ?_⟩
  refine List.forall_mem_cons.mpr ⟨am_iconst_ok X (by decide +kernel), ?_⟩
  refine List.forall_mem_cons.mpr ⟨am_istore_ok X (by decide) (by decide +kernel), ?_⟩
  refine List.forall_mem_cons.mpr ⟨am_iload_ok X (by decide +kernel), ?_⟩
  refine List.forall_mem_cons.mpr ⟨am_iload_ok X (by decide +kernel), ?_⟩
  refine List.forall_mem_cons.mpr ⟨am_icmp_ne_ok (off := 5) X (by decide +kernel) (by decide), ?_⟩
  refine List.forall_mem_cons.mpr ⟨am_iconst_ok X (by decide +kernel), ?_⟩
  refine List.forall_mem_cons.mpr ⟨am_zret_ok X hr (by decide +kernel), ?_⟩
  refine List.forall_mem_cons.mpr ⟨am_aload_n_ok (k := 0) X (by decide +kernel), ?_⟩
  refine List.forall_mem_cons.mpr ⟨am_iload_n_ok (k := 2) X (by decide +kernel), ?_⟩
  refine List.forall_mem_cons.mpr ⟨am_iload_n_ok (k := 3) X (by decide +kernel), ?_⟩
  refine List.forall_mem_cons.mpr ⟨am_iload_n_ok (k := 1) X (by decide +kernel), ?_⟩
  refine List.forall_mem_cons.mpr ⟨am_callV_ok (C := R_Po) (T := F_Po) (N := 4) (idx := 32) X rfl (am_GV m_Po_32 v_Po_handOf.1 v_Po_handOf.2.1 v_Po_handOf.2.2.1 v_Po_handOf.2.2.2) ⟨rfl, v_Po_handOfd⟩ ⟨by decide, by decide⟩ (Nat.zero_le _) (by decide +kernel), ?_⟩
  refine List.forall_mem_cons.mpr ⟨am_iload_ok X (by decide +kernel), ?_⟩
  refine List.forall_mem_cons.mpr ⟨am_if_eq_ok (off := 7) X (by decide +kernel) (by decide), ?_⟩
  refine List.forall_mem_cons.mpr ⟨am_iconst_ok X (by decide +kernel), ?_⟩
  refine List.forall_mem_cons.mpr ⟨am_goto_ok (off := 4) X (by decide +kernel) (by decide), ?_⟩
  refine List.forall_mem_cons.mpr ⟨am_iconst_ok X (by decide +kernel), ?_⟩
  refine List.forall_mem_cons.mpr ⟨am_icmp_ne_ok (off := 7) X (by decide +kernel) (by decide), ?_⟩
  refine List.forall_mem_cons.mpr ⟨am_iconst_ok X (by decide +kernel), ?_⟩
  refine List.forall_mem_cons.mpr ⟨am_goto_ok (off := 4) X (by decide +kernel) (by decide), ?_⟩
  refine List.forall_mem_cons.mpr ⟨am_iconst_ok X (by decide +kernel), ?_⟩
  refine List.forall_mem_cons.mpr ⟨am_zret_ok X hr (by decide +kernel), ?_⟩
  exact fun _ h => absurd h List.not_mem_nil
abbrev b_Ro_holds : AT := [(0, am_ic 0 1), (1, am_ist 2 1), (2, am_ic 0 1), (3, am_ist 3 1), (4, am_ild 3 1), (5, am_ald 0 1), (6, am_get am_Y 5 2), (9, am_icmp 3 74), (12, am_ald 0 1), (13, am_get am_Y 5 0), (16, am_ald 0 1), (17, am_get am_Y 5 1), (20, am_ild 3 1), (21, am_iald am_Y), (22, am_ald 0 1), (23, am_ild 3 1), (24, am_callV am_Y 5 60 1), (27, am_ild 1 1), (28, am_callV am_Y 4 18 3), (31, am_if 0 36), (34, am_ic 0 1), (35, am_ret), (36, am_ald 0 1), (37, am_get am_Y 5 0), (40, am_ild 1 1), (41, am_ald 0 1), (42, am_get am_Y 5 1), (45, am_ild 3 1), (46, am_iald am_Y), (47, am_ald 0 1), (48, am_ild 3 1), (49, am_callV am_Y 5 60 1), (52, am_callV am_Y 4 73 3), (55, am_if 0 68), (58, am_ild 2 1), (59, am_if 1 66), (62, am_ic 1 1), (63, am_goto 67), (66, am_ic 0 1), (67, am_ist 2 1), (68, am_inc 3 (1)), (71, am_goto 4), (74, am_ild 2 1), (75, am_if 0 82), (78, am_ic 1 1), (79, am_goto 83), (82, am_ic (-1) 1), (83, am_ret)]
set_option maxRecDepth 100000 in
set_option maxHeartbeats 4000000 in
theorem T_Ro_holds : am_T am_Y am_cl am_Gw am_mi 74 b_Ro_holds := by
  intro E A p l e s m args below meth c Rt X hr
  refine List.forall_mem_cons.mpr ⟨am_iconst_ok X (by decide +kernel), ?_⟩
  refine List.forall_mem_cons.mpr ⟨am_istore_n_ok (k := 2) X (by decide) (by decide +kernel), ?_⟩
  refine List.forall_mem_cons.mpr ⟨am_iconst_ok X (by decide +kernel), ?_⟩
  refine List.forall_mem_cons.mpr ⟨am_istore_n_ok (k := 3) X (by decide) (by decide +kernel), ?_⟩
  refine List.forall_mem_cons.mpr ⟨am_iload_n_ok (k := 3) X (by decide +kernel), ?_⟩
  refine List.forall_mem_cons.mpr ⟨am_aload_n_ok (k := 0) X (by decide +kernel), ?_⟩
  refine List.forall_mem_cons.mpr ⟨am_get_ok (C := R_Ro) (T := F_Ro) (N := 4) (idx := 15) X rfl (by decide) (fun w h => List.mem_cons_of_mem _ (u_Ro w h)) (List.mem_cons_of_mem _ w_Ro_15) (by decide +kernel), ?_⟩
  refine List.forall_mem_cons.mpr ⟨am_icmp_ge_ok (off := 65) X (by decide +kernel) (by decide), ?_⟩
  refine List.forall_mem_cons.mpr ⟨am_aload_n_ok (k := 0) X (by decide +kernel), ?_⟩
  refine List.forall_mem_cons.mpr ⟨am_get_ok (C := R_Ro) (T := F_Ro) (N := 4) (idx := 22) X rfl (by decide) (fun w h => List.mem_cons_of_mem _ (u_Ro w h)) (List.mem_cons_of_mem _ w_Ro_22) (by decide +kernel), ?_⟩
  refine List.forall_mem_cons.mpr ⟨am_aload_n_ok (k := 0) X (by decide +kernel), ?_⟩
  refine List.forall_mem_cons.mpr ⟨am_get_ok (C := R_Ro) (T := F_Ro) (N := 4) (idx := 9) X rfl (by decide) (fun w h => List.mem_cons_of_mem _ (u_Ro w h)) (List.mem_cons_of_mem _ w_Ro_9) (by decide +kernel), ?_⟩
  refine List.forall_mem_cons.mpr ⟨am_iload_n_ok (k := 3) X (by decide +kernel), ?_⟩
  refine List.forall_mem_cons.mpr ⟨am_iald_ok X am_Y0 (by decide +kernel), ?_⟩
  refine List.forall_mem_cons.mpr ⟨am_aload_n_ok (k := 0) X (by decide +kernel), ?_⟩
  refine List.forall_mem_cons.mpr ⟨am_iload_n_ok (k := 3) X (by decide +kernel), ?_⟩
  refine List.forall_mem_cons.mpr ⟨am_callV_ok (C := R_Ro) (T := F_Ro) (N := 4) (idx := 36) X rfl (am_GV m_Ro_36 v_Ro_pointAfter.1 v_Ro_pointAfter.2.1 v_Ro_pointAfter.2.2.1 v_Ro_pointAfter.2.2.2) ⟨rfl, v_Ro_pointAfterd⟩ ⟨by decide, by decide⟩ (Nat.zero_le _) (by decide +kernel), ?_⟩
  refine List.forall_mem_cons.mpr ⟨am_iload_n_ok (k := 1) X (by decide +kernel), ?_⟩
  refine List.forall_mem_cons.mpr ⟨am_callV_ok (C := R_Po) (T := F_Po) (N := 4) (idx := 43) X rfl (am_GV m_Ro_43 v_Po_isOnSegment.1 v_Po_isOnSegment.2.1 v_Po_isOnSegment.2.2.1 v_Po_isOnSegment.2.2.2) ⟨rfl, v_Po_isOnSegmentd⟩ ⟨by decide, by decide⟩ (Nat.zero_le _) (by decide +kernel), ?_⟩
  refine List.forall_mem_cons.mpr ⟨am_if_eq_ok (off := 5) X (by decide +kernel) (by decide), ?_⟩
  refine List.forall_mem_cons.mpr ⟨am_iconst_ok X (by decide +kernel), ?_⟩
  refine List.forall_mem_cons.mpr ⟨am_ret_ok X hr (by decide +kernel), ?_⟩
  refine List.forall_mem_cons.mpr ⟨am_aload_n_ok (k := 0) X (by decide +kernel), ?_⟩
  refine List.forall_mem_cons.mpr ⟨am_get_ok (C := R_Ro) (T := F_Ro) (N := 4) (idx := 22) X rfl (by decide) (fun w h => List.mem_cons_of_mem _ (u_Ro w h)) (List.mem_cons_of_mem _ w_Ro_22) (by decide +kernel), ?_⟩
  refine List.forall_mem_cons.mpr ⟨am_iload_n_ok (k := 1) X (by decide +kernel), ?_⟩
  refine List.forall_mem_cons.mpr ⟨am_aload_n_ok (k := 0) X (by decide +kernel), ?_⟩
  refine List.forall_mem_cons.mpr ⟨am_get_ok (C := R_Ro) (T := F_Ro) (N := 4) (idx := 9) X rfl (by decide) (fun w h => List.mem_cons_of_mem _ (u_Ro w h)) (List.mem_cons_of_mem _ w_Ro_9) (by decide +kernel), ?_⟩
  refine List.forall_mem_cons.mpr ⟨am_iload_n_ok (k := 3) X (by decide +kernel), ?_⟩
  refine List.forall_mem_cons.mpr ⟨am_iald_ok X am_Y0 (by decide +kernel), ?_⟩
  refine List.forall_mem_cons.mpr ⟨am_aload_n_ok (k := 0) X (by decide +kernel), ?_⟩
  refine List.forall_mem_cons.mpr ⟨am_iload_n_ok (k := 3) X (by decide +kernel), ?_⟩
  refine List.forall_mem_cons.mpr ⟨am_callV_ok (C := R_Ro) (T := F_Ro) (N := 4) (idx := 36) X rfl (am_GV m_Ro_36 v_Ro_pointAfter.1 v_Ro_pointAfter.2.1 v_Ro_pointAfter.2.2.1 v_Ro_pointAfter.2.2.2) ⟨rfl, v_Ro_pointAfterd⟩ ⟨by decide, by decide⟩ (Nat.zero_le _) (by decide +kernel), ?_⟩
  refine List.forall_mem_cons.mpr ⟨am_callV_ok (C := R_Po) (T := F_Po) (N := 4) (idx := 47) X rfl (am_GV m_Ro_47 v_Po_isSeenFrom.1 v_Po_isSeenFrom.2.1 v_Po_isSeenFrom.2.2.1 v_Po_isSeenFrom.2.2.2) ⟨rfl, v_Po_isSeenFromd⟩ ⟨by decide, by decide⟩ (Nat.zero_le _) (by decide +kernel), ?_⟩
  refine List.forall_mem_cons.mpr ⟨am_if_eq_ok (off := 13) X (by decide +kernel) (by decide), ?_⟩
  refine List.forall_mem_cons.mpr ⟨am_iload_n_ok (k := 2) X (by decide +kernel), ?_⟩
  refine List.forall_mem_cons.mpr ⟨am_if_ne_ok (off := 7) X (by decide +kernel) (by decide), ?_⟩
  refine List.forall_mem_cons.mpr ⟨am_iconst_ok X (by decide +kernel), ?_⟩
  refine List.forall_mem_cons.mpr ⟨am_goto_ok (off := 4) X (by decide +kernel) (by decide), ?_⟩
  refine List.forall_mem_cons.mpr ⟨am_iconst_ok X (by decide +kernel), ?_⟩
  refine List.forall_mem_cons.mpr ⟨am_istore_n_ok (k := 2) X (by decide) (by decide +kernel), ?_⟩
  refine List.forall_mem_cons.mpr ⟨am_iinc_ok X (by decide) (by decide +kernel), ?_⟩
  refine List.forall_mem_cons.mpr ⟨am_goto_ok (off := -67) X (by decide +kernel) (by decide), ?_⟩
  refine List.forall_mem_cons.mpr ⟨am_iload_n_ok (k := 2) X (by decide +kernel), ?_⟩
  refine List.forall_mem_cons.mpr ⟨am_if_eq_ok (off := 7) X (by decide +kernel) (by decide), ?_⟩
  refine List.forall_mem_cons.mpr ⟨am_iconst_ok X (by decide +kernel), ?_⟩
  refine List.forall_mem_cons.mpr ⟨am_goto_ok (off := 4) X (by decide +kernel) (by decide), ?_⟩
  refine List.forall_mem_cons.mpr ⟨am_iconst_ok X (by decide +kernel), ?_⟩
  refine List.forall_mem_cons.mpr ⟨am_ret_ok X hr (by decide +kernel), ?_⟩
  exact fun _ h => absurd h List.not_mem_nil
