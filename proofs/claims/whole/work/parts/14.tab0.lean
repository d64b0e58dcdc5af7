/-! printed: tables of the methods -/
abbrev b_De_isInPlane : AT := [(0, am_ild 0 1), (1, am_ic (-100000) 2), (3, am_icmp 2 28), (6, am_ild 0 1), (7, am_ic (100000) 2), (9, am_icmp 4 28), (12, am_ild 1 1), (13, am_ic (-100000) 2), (15, am_icmp 2 28), (18, am_ild 1 1), (19, am_ic (100000) 2), (21, am_icmp 4 28), (24, am_ic 1 1), (25, am_goto 29), (28, am_ic 0 1), (29, am_zret)]
set_option maxRecDepth 100000 in
set_option maxHeartbeats 4000000 in
theorem T_De_isInPlane : am_T am_Y am_cl am_Gw am_mi 0 b_De_isInPlane := by
  intro E A p l e s m args below meth c Rt X hr
  refine List.forall_mem_cons.mpr ⟨am_iload_n_ok (k := 0) X (by decide +kernel), ?_⟩
  refine List.forall_mem_cons.mpr ⟨am_ldc_ok (i := 212) X (by decide +kernel) (List.mem_cons_of_mem _ (am_Gin 304 (by decide +kernel) (by decide +kernel))), ?_⟩
  refine List.forall_mem_cons.mpr ⟨am_icmp_lt_ok (off := 25) X (by decide +kernel) (by decide), ?_⟩
  refine List.forall_mem_cons.mpr ⟨am_iload_n_ok (k := 0) X (by decide +kernel), ?_⟩
  refine List.forall_mem_cons.mpr ⟨am_ldc_ok (i := 213) X (by decide +kernel) (List.mem_cons_of_mem _ (am_Gin 305 (by decide +kernel) (by decide +kernel))), ?_⟩
  refine List.forall_mem_cons.mpr ⟨am_icmp_gt_ok (off := 19) X (by decide +kernel) (by decide), ?_⟩
  refine List.forall_mem_cons.mpr ⟨am_iload_n_ok (k := 1) X (by decide +kernel), ?_⟩
  refine List.forall_mem_cons.mpr ⟨am_ldc_ok (i := 212) X (by decide +kernel) (List.mem_cons_of_mem _ (am_Gin 304 (by decide +kernel) (by decide +kernel))), ?_⟩
  refine List.forall_mem_cons.mpr ⟨am_icmp_lt_ok (off := 13) X (by decide +kernel) (by decide), ?_⟩
  refine List.forall_mem_cons.mpr ⟨am_iload_n_ok (k := 1) X (by decide +kernel), ?_⟩
  refine List.forall_mem_cons.mpr ⟨am_ldc_ok (i := 213) X (by decide +kernel) (List.mem_cons_of_mem _ (am_Gin 305 (by decide +kernel) (by decide +kernel))), ?_⟩
  refine List.forall_mem_cons.mpr ⟨am_icmp_gt_ok (off := 7) X (by decide +kernel) (by decide), ?_⟩
  refine List.forall_mem_cons.mpr ⟨am_iconst_ok X (by decide +kernel), ?_⟩
  refine List.forall_mem_cons.mpr ⟨am_goto_ok (off := 4) X (by decide +kernel) (by decide), ?_⟩
  refine List.forall_mem_cons.mpr ⟨am_iconst_ok X (by decide +kernel), ?_⟩
  refine List.forall_mem_cons.mpr ⟨am_zret_ok X hr (by decide +kernel), ?_⟩
  exact fun _ h => absurd h List.not_mem_nil
abbrev b_Po_append : AT := [(0, am_ald 0 1), (1, am_get am_Y 4 0), (4, am_ald 0 1), (5, am_get am_Y 4 2), (8, am_ild 1 1), (9, am_iast am_Y), (10, am_ald 0 1), (11, am_get am_Y 4 1), (14, am_ald 0 1), (15, am_get am_Y 4 2), (18, am_ild 2 1), (19, am_iast am_Y), (20, am_ald 0 1), (21, am_dup), (22, am_get am_Y 4 2), (25, am_ic 1 1), (26, am_iadd), (27, am_put am_Y 4 2), (30, am_ald 0 1), (31, am_dup), (32, am_get am_Y 4 3), (35, am_ic 1 1), (36, am_iadd), (37, am_put am_Y 4 3), (40, am_vret)]
set_option maxRecDepth 100000 in
set_option maxHeartbeats 4000000 in
theorem T_Po_append : am_T am_Y am_cl am_Gw am_mi 1 b_Po_append := by
  intro E A p l e s m args below meth c Rt X hr
  refine List.forall_mem_cons.mpr ⟨am_aload_n_ok (k := 0) X (by decide +kernel), ?_⟩
  refine List.forall_mem_cons.mpr ⟨am_get_ok (C := R_Po) (T := F_Po) (N := 4) (idx := 9) X rfl (by decide) (fun w h => List.mem_cons_of_mem _ (u_Po w h)) (List.mem_cons_of_mem _ w_Po_9) (by decide +kernel), ?_⟩
  refine List.forall_mem_cons.mpr ⟨am_aload_n_ok (k := 0) X (by decide +kernel), ?_⟩
  refine List.forall_mem_cons.mpr ⟨am_get_ok (C := R_Po) (T := F_Po) (N := 4) (idx := 18) X rfl (by decide) (fun w h => List.mem_cons_of_mem _ (u_Po w h)) (List.mem_cons_of_mem _ w_Po_18) (by decide +kernel), ?_⟩
  refine List.forall_mem_cons.mpr ⟨am_iload_n_ok (k := 1) X (by decide +kernel), ?_⟩
  refine List.forall_mem_cons.mpr ⟨am_iast_ok X am_Y0 (by decide +kernel), ?_⟩
  refine List.forall_mem_cons.mpr ⟨am_aload_n_ok (k := 0) X (by decide +kernel), ?_⟩
  refine List.forall_mem_cons.mpr ⟨am_get_ok (C := R_Po) (T := F_Po) (N := 4) (idx := 15) X rfl (by decide) (fun w h => List.mem_cons_of_mem _ (u_Po w h)) (List.mem_cons_of_mem _ w_Po_15) (by decide +kernel), ?_⟩
  refine List.forall_mem_cons.mpr ⟨am_aload_n_ok (k := 0) X (by decide +kernel), ?_⟩
  refine List.forall_mem_cons.mpr ⟨am_get_ok (C := R_Po) (T := F_Po) (N := 4) (idx := 18) X rfl (by decide) (fun w h => List.mem_cons_of_mem _ (u_Po w h)) (List.mem_cons_of_mem _ w_Po_18) (by decide +kernel), ?_⟩
  refine List.forall_mem_cons.mpr ⟨am_iload_n_ok (k := 2) X (by decide +kernel), ?_⟩
  refine List.forall_mem_cons.mpr ⟨am_iast_ok X am_Y0 (by decide +kernel), ?_⟩
  refine List.forall_mem_cons.mpr ⟨am_aload_n_ok (k := 0) X (by decide +kernel), ?_⟩
  refine List.forall_mem_cons.mpr ⟨am_dup_ok X (by decide +kernel), ?_⟩
  refine List.forall_mem_cons.mpr ⟨am_get_ok (C := R_Po) (T := F_Po) (N := 4) (idx := 18) X rfl (by decide) (fun w h => List.mem_cons_of_mem _ (u_Po w h)) (List.mem_cons_of_mem _ w_Po_18) (by decide +kernel), ?_⟩
  refine List.forall_mem_cons.mpr ⟨am_iconst_ok X (by decide +kernel), ?_⟩
  refine List.forall_mem_cons.mpr ⟨am_iadd_ok X (by decide +kernel), ?_⟩
  refine List.forall_mem_cons.mpr ⟨am_put_ok (C := R_Po) (T := F_Po) (N := 4) (idx := 18) X rfl (by decide) (fun w h => List.mem_cons_of_mem _ (u_Po w h)) t_Po_ok n_Po rfl (by decide +kernel) (List.mem_cons_of_mem _ w_Po_18) (by decide +kernel), ?_⟩
  refine List.forall_mem_cons.mpr ⟨am_aload_n_ok (k := 0) X (by decide +kernel), ?_⟩
  refine List.forall_mem_cons.mpr ⟨am_dup_ok X (by decide +kernel), ?_⟩
  refine List.forall_mem_cons.mpr ⟨am_get_ok (C := R_Po) (T := F_Po) (N := 4) (idx := 22) X rfl (by decide) (fun w h => List.mem_cons_of_mem _ (u_Po w h)) (List.mem_cons_of_mem _ w_Po_22) (by decide +kernel), ?_⟩
  refine List.forall_mem_cons.mpr ⟨am_iconst_ok X (by decide +kernel), ?_⟩
  refine List.forall_mem_cons.mpr ⟨am_iadd_ok X (by decide +kernel), ?_⟩
  refine List.forall_mem_cons.mpr ⟨am_put_ok (C := R_Po) (T := F_Po) (N := 4) (idx := 22) X rfl (by decide) (fun w h => List.mem_cons_of_mem _ (u_Po w h)) t_Po_ok n_Po rfl (by decide +kernel) (List.mem_cons_of_mem _ w_Po_22) (by decide +kernel), ?_⟩
  refine List.forall_mem_cons.mpr ⟨am_vret_ok X hr (by decide +kernel), ?_⟩
  exact fun _ h => absurd h List.not_mem_nil
abbrev b_De_add : AT := [(0, am_ild 1 1), (1, am_ild 2 1), (2, am_callS 0 2), (5, am_if 0 20), (8, am_ald 0 1), (9, am_get am_Y 8 0), (12, am_get am_Y 4 2), (15, am_ic (60) 2), (17, am_icmp 2 22), (20, am_ic (-1) 1), (21, am_ret), (22, am_ald 0 1), (23, am_get am_Y 8 0), (26, am_ild 1 1), (27, am_ild 2 1), (28, am_callV am_Y 4 1 2), (31, am_ald 0 1), (32, am_get am_Y 8 0), (35, am_get am_Y 4 2), (38, am_ic 1 1), (39, am_isub), (40, am_ret)]
set_option maxRecDepth 100000 in
set_option maxHeartbeats 4000000 in
theorem T_De_add : am_T am_Y am_cl am_Gw am_mi 2 b_De_add := by
  intro E A p l e s m args below meth c Rt X hr
  refine List.forall_mem_cons.mpr ⟨am_iload_n_ok (k := 1) X (by decide +kernel), ?_⟩
  refine List.forall_mem_cons.mpr ⟨am_iload_n_ok (k := 2) X (by decide +kernel), ?_⟩
  refine List.forall_mem_cons.mpr ⟨am_callS_ok (idx := 64) X (am_GS m_De_64 v_De_isInPlane.1 v_De_isInPlane.2.1 v_De_isInPlane.2.2) ⟨rfl, v_De_isInPlaned⟩ ⟨by decide, by decide⟩ (by decide +kernel), ?_⟩
  refine List.forall_mem_cons.mpr ⟨am_if_eq_ok (off := 15) X (by decide +kernel) (by decide), ?_⟩
  refine List.forall_mem_cons.mpr ⟨am_aload_n_ok (k := 0) X (by decide +kernel), ?_⟩
  refine List.forall_mem_cons.mpr ⟨am_get_ok (C := R_De) (T := F_De) (N := 7) (idx := 12) X rfl (by decide) (fun w h => List.mem_cons_of_mem _ (u_De w h)) (List.mem_cons_of_mem _ w_De_12) (by decide +kernel), ?_⟩
  refine List.forall_mem_cons.mpr ⟨am_get_ok (C := R_Po) (T := F_Po) (N := 4) (idx := 68) X rfl (by decide) (fun w h => List.mem_cons_of_mem _ (u_Po w h)) (List.mem_cons_of_mem _ w_De_68) (by decide +kernel), ?_⟩
  refine List.forall_mem_cons.mpr ⟨am_bipush_ok X (by decide +kernel) (by decide), ?_⟩
  refine List.forall_mem_cons.mpr ⟨am_icmp_lt_ok (off := 5) X (by decide +kernel) (by decide), ?_⟩
  refine List.forall_mem_cons.mpr ⟨am_iconst_ok X (by decide +kernel), ?_⟩
  refine List.forall_mem_cons.mpr ⟨am_ret_ok X hr (by decide +kernel), ?_⟩
  refine List.forall_mem_cons.mpr ⟨am_aload_n_ok (k := 0) X (by decide +kernel), ?_⟩
  refine List.forall_mem_cons.mpr ⟨am_get_ok (C := R_De) (T := F_De) (N := 7) (idx := 12) X rfl (by decide) (fun w h => List.mem_cons_of_mem _ (u_De w h)) (List.mem_cons_of_mem _ w_De_12) (by decide +kernel), ?_⟩
  refine List.forall_mem_cons.mpr ⟨am_iload_n_ok (k := 1) X (by decide +kernel), ?_⟩
  refine List.forall_mem_cons.mpr ⟨am_iload_n_ok (k := 2) X (by decide +kernel), ?_⟩
  refine List.forall_mem_cons.mpr ⟨am_callV_ok (C := R_Po) (T := F_Po) (N := 4) (idx := 72) X rfl (am_GV m_De_72 v_Po_append.1 v_Po_append.2.1 v_Po_append.2.2.1 v_Po_append.2.2.2) ⟨rfl, v_Po_appendd⟩ ⟨by decide, by decide⟩ (Nat.zero_le _) (by decide +kernel), ?_⟩
  refine List.forall_mem_cons.mpr ⟨am_aload_n_ok (k := 0) X (by decide +kernel), ?_⟩
  refine List.forall_mem_cons.mpr ⟨am_get_ok (C := R_De) (T := F_De) (N := 7) (idx := 12) X rfl (by decide) (fun w h => List.mem_cons_of_mem _ (u_De w h)) (List.mem_cons_of_mem _ w_De_12) (by decide +kernel), ?_⟩
  refine List.forall_mem_cons.mpr ⟨am_get_ok (C := R_Po) (T := F_Po) (N := 4) (idx := 68) X rfl (by decide) (fun w h => List.mem_cons_of_mem _ (u_Po w h)) (List.mem_cons_of_mem _ w_De_68) (by decide +kernel), ?_⟩
  refine List.forall_mem_cons.mpr ⟨am_iconst_ok X (by decide +kernel), ?_⟩
  refine List.forall_mem_cons.mpr ⟨am_isub_ok X (by decide +kernel), ?_⟩
  refine List.forall_mem_cons.mpr ⟨am_ret_ok X hr (by decide +kernel), ?_⟩
  exact fun _ h => absurd h List.not_mem_nil
abbrev b_Po_removeAll : AT := [(0, am_ald 0 1), (1, am_ic 0 1), (2, am_put am_Y 4 2), (5, am_ald 0 1), (6, am_dup), (7, am_get am_Y 4 3), (10, am_ic 1 1), (11, am_iadd), (12, am_put am_Y 4 3), (15, am_vret)]
set_option maxRecDepth 100000 in
set_option maxHeartbeats 4000000 in
theorem T_Po_removeAll : am_T am_Y am_cl am_Gw am_mi 3 b_Po_removeAll := by
  intro E A p l e s m args below meth c Rt X hr
  refine List.forall_mem_cons.mpr ⟨am_aload_n_ok (k := 0) X (by decide +kernel), ?_⟩
  refine List.forall_mem_cons.mpr ⟨am_iconst_ok X (by decide +kernel), ?_⟩
  refine List.forall_mem_cons.mpr ⟨am_put_ok (C := R_Po) (T := F_Po) (N := 4) (idx := 18) X rfl (by decide) (fun w h => List.mem_cons_of_mem _ (u_Po w h)) t_Po_ok n_Po rfl (by decide +kernel) (List.mem_cons_of_mem _ w_Po_18) (by decide +kernel), ?_⟩
  refine List.forall_mem_cons.mpr ⟨am_aload_n_ok (k := 0) X (by decide +kernel), ?_⟩
  refine List.forall_mem_cons.mpr ⟨am_dup_ok X (by decide +kernel), ?_⟩
  refine List.forall_mem_cons.mpr ⟨am_get_ok (C := R_Po) (T := F_Po) (N := 4) (idx := 22) X rfl (by decide) (fun w h => List.mem_cons_of_mem _ (u_Po w h)) (List.mem_cons_of_mem _ w_Po_22) (by decide +kernel), ?_⟩
  refine List.forall_mem_cons.mpr ⟨am_iconst_ok X (by decide +kernel), ?_⟩
  refine List.forall_mem_cons.mpr ⟨am_iadd_ok X (by decide +kernel), ?_⟩
  refine List.forall_mem_cons.mpr ⟨am_put_ok (C := R_Po) (T := F_Po) (N := 4) (idx := 22) X rfl (by decide) (fun w h => List.mem_cons_of_mem _ (u_Po w h)) t_Po_ok n_Po rfl (by decide +kernel) (List.mem_cons_of_mem _ w_Po_22) (by decide +kernel), ?_⟩
  refine List.forall_mem_cons.mpr ⟨am_vret_ok X hr (by decide +kernel), ?_⟩
  exact fun _ h => absurd h List.not_mem_nil
abbrev b_Ro_removeAll : AT := [(0, am_ald 0 1), (1, am_ic 0 1), (2, am_put am_Y 5 2), (5, am_ald 0 1), (6, am_dup), (7, am_get am_Y 5 3), (10, am_ic 1 1), (11, am_iadd), (12, am_put am_Y 5 3), (15, am_vret)]
set_option maxRecDepth 100000 in
set_option maxHeartbeats 4000000 in
theorem T_Ro_removeAll : am_T am_Y am_cl am_Gw am_mi 4 b_Ro_removeAll := by
  intro E A p l e s m args below meth c Rt X hr
  refine List.forall_mem_cons.mpr ⟨am_aload_n_ok (k := 0) X (by decide +kernel), ?_⟩
  refine List.forall_mem_cons.mpr ⟨am_iconst_ok X (by decide +kernel), ?_⟩
  refine List.forall_mem_cons.mpr ⟨am_put_ok (C := R_Ro) (T := F_Ro) (N := 4) (idx := 15) X rfl (by decide) (fun w h => List.mem_cons_of_mem _ (u_Ro w h)) t_Ro_ok n_Ro rfl (by decide +kernel) (List.mem_cons_of_mem _ w_Ro_15) (by decide +kernel), ?_⟩
  refine List.forall_mem_cons.mpr ⟨am_aload_n_ok (k := 0) X (by decide +kernel), ?_⟩
  refine List.forall_mem_cons.mpr ⟨am_dup_ok X (by decide +kernel), ?_⟩
  refine List.forall_mem_cons.mpr ⟨am_get_ok (C := R_Ro) (T := F_Ro) (N := 4) (idx := 19) X rfl (by decide) (fun w h => List.mem_cons_of_mem _ (u_Ro w h)) (List.mem_cons_of_mem _ w_Ro_19) (by decide +kernel), ?_⟩
  refine List.forall_mem_cons.mpr ⟨am_iconst_ok X (by decide +kernel), ?_⟩
  refine List.forall_mem_cons.mpr ⟨am_iadd_ok X (by decide +kernel), ?_⟩
  refine List.forall_mem_cons.mpr ⟨am_put_ok (C := R_Ro) (T := F_Ro) (N := 4) (idx := 19) X rfl (by decide) (fun w h => List.mem_cons_of_mem _ (u_Ro w h)) t_Ro_ok n_Ro rfl (by decide +kernel) (List.mem_cons_of_mem _ w_Ro_19) (by decide +kernel), ?_⟩
  refine List.forall_mem_cons.mpr ⟨am_vret_ok X hr (by decide +kernel), ?_⟩
  exact fun _ h => absurd h List.not_mem_nil
abbrev b_De_clear : AT := [(0, am_ald 0 1), (1, am_get am_Y 8 0), (4, am_get am_Y 4 2), (7, am_ist 1 1), (8, am_ald 0 1), (9, am_get am_Y 8 0), (12, am_callV am_Y 4 3 0), (15, am_ald 0 1), (16, am_get am_Y 8 4), (19, am_callV am_Y 5 4 0), (22, am_ild 1 1), (23, am_ret)]
set_option maxRecDepth 100000 in
set_option maxHeartbeats 4000000 in
theorem T_De_clear : am_T am_Y am_cl am_Gw am_mi 5 b_De_clear := by
  intro E A p l e s m args below meth c Rt X hr
  refine List.forall_mem_cons.mpr ⟨am_aload_n_ok (k := 0) X (by decide +kernel), ?_⟩
  refine List.forall_mem_cons.mpr ⟨am_get_ok (C := R_De) (T := F_De) (N := 7) (idx := 12) X rfl (by decide) (fun w h => List.mem_cons_of_mem _ (u_De w h)) (List.mem_cons_of_mem _ w_De_12) (by decide +kernel), ?_⟩
  refine List.forall_mem_cons.mpr ⟨am_get_ok (C := R_Po) (T := F_Po) (N := 4) (idx := 68) X rfl (by decide) (fun w h => List.mem_cons_of_mem _ (u_Po w h)) (List.mem_cons_of_mem _ w_De_68) (by decide +kernel), ?_⟩
  refine List.forall_mem_cons.mpr ⟨am_istore_n_ok (k := 1) X (by decide) (by decide +kernel), ?_⟩
  refine List.forall_mem_cons.mpr ⟨am_aload_n_ok (k := 0) X (by decide +kernel), ?_⟩
  refine List.forall_mem_cons.mpr ⟨am_get_ok (C := R_De) (T := F_De) (N := 7) (idx := 12) X rfl (by decide) (fun w h => List.mem_cons_of_mem _ (u_De w h)) (List.mem_cons_of_mem _ w_De_12) (by decide +kernel), ?_⟩
  refine List.forall_mem_cons.mpr ⟨am_callV_ok (C := R_Po) (T := F_Po) (N := 4) (idx := 76) X rfl (am_GV m_De_76 v_Po_removeAll.1 v_Po_removeAll.2.1 v_Po_removeAll.2.2.1 v_Po_removeAll.2.2.2) ⟨rfl, v_Po_removeAlld⟩ ⟨by decide, by decide⟩ (Nat.zero_le _) (by decide +kernel), ?_⟩
  refine List.forall_mem_cons.mpr ⟨am_aload_n_ok (k := 0) X (by decide +kernel), ?_⟩
  refine List.forall_mem_cons.mpr ⟨am_get_ok (C := R_De) (T := F_De) (N := 7) (idx := 44) X rfl (by decide) (fun w h => List.mem_cons_of_mem _ (u_De w h)) (List.mem_cons_of_mem _ w_De_44) (by decide +kernel), ?_⟩
  refine List.forall_mem_cons.mpr ⟨am_callV_ok (C := R_Ro) (T := F_Ro) (N := 4) (idx := 79) X rfl (am_GV m_De_79 v_Ro_removeAll.1 v_Ro_removeAll.2.1 v_Ro_removeAll.2.2.1 v_Ro_removeAll.2.2.2) ⟨rfl, v_Ro_removeAlld⟩ ⟨by decide, by decide⟩ (Nat.zero_le _) (by decide +kernel), ?_⟩
  refine List.forall_mem_cons.mpr ⟨am_iload_n_ok (k := 1) X (by decide +kernel), ?_⟩
  refine List.forall_mem_cons.mpr ⟨am_ret_ok X hr (by decide +kernel), ?_⟩
  exact fun _ h => absurd h List.not_mem_nil
abbrev b_Hu_takeAllIn : AT := [(0, am_ic 0 1), (1, am_ist 1 1), (2, am_ild 1 1), (3, am_ic (60) 2), (5, am_icmp 3 21), (8, am_ald 0 1), (9, am_get am_Y 1 1), (12, am_ild 1 1), (13, am_ic 0 1), (14, am_zast am_Y), (15, am_inc 1 (1)), (18, am_goto 2), (21, am_vret)]
set_option maxRecDepth 100000 in
set_option maxHeartbeats 4000000 in
theorem T_Hu_takeAllIn : am_T am_Y am_cl am_Gw am_mi 6 b_Hu_takeAllIn := by
  intro E A p l e s m args below meth c Rt X hr
  refine List.forall_mem_cons.mpr ⟨am_iconst_ok X (by decide +kernel), ?_⟩
  refine List.forall_mem_cons.mpr ⟨am_istore_n_ok (k := 1) X (by decide) (by decide +kernel), ?_⟩
  refine List.forall_mem_cons.mpr ⟨am_iload_n_ok (k := 1) X (by decide +kernel), ?_⟩
  refine List.forall_mem_cons.mpr ⟨am_bipush_ok X (by decide +kernel) (by decide), ?_⟩
  refine List.forall_mem_cons.mpr ⟨am_icmp_ge_ok (off := 16) X (by decide +kernel) (by decide), ?_⟩
  refine List.forall_mem_cons.mpr ⟨am_aload_n_ok (k := 0) X (by decide +kernel), ?_⟩
  refine List.forall_mem_cons.mpr ⟨am_get_ok (C := R_Hu) (T := F_Hu) (N := 5) (idx := 9) X rfl (by decide) (fun w h => List.mem_cons_of_mem _ (u_Hu w h)) (List.mem_cons_of_mem _ w_Hu_9) (by decide +kernel), ?_⟩
  refine List.forall_mem_cons.mpr ⟨am_iload_n_ok (k := 1) X (by decide +kernel), ?_⟩
  refine List.forall_mem_cons.mpr ⟨am_iconst_ok X (by decide +kernel), ?_⟩
  refine List.forall_mem_cons.mpr ⟨am_zast_ok X am_Y0 (by decide +kernel), ?_⟩
  refine List.forall_mem_cons.mpr ⟨am_iinc_ok X (by decide) (by decide +kernel), ?_⟩
  refine List.forall_mem_cons.mpr ⟨am_goto_ok (off := -16) X (by decide +kernel) (by decide), ?_⟩
  refine List.forall_mem_cons.mpr ⟨am_vret_ok X hr (by decide +kernel), ?_⟩
  exact fun _ h => absurd h List.not_mem_nil
abbrev b_Hu_takesIn : AT := [(0, am_ald 0 1), (1, am_get am_Y 1 1), (4, am_ild 1 1), (5, am_zald am_Y), (6, am_if 1 13), (9, am_ic 1 1), (10, am_goto 14), (13, am_ic 0 1), (14, am_zret)]
set_option maxRecDepth 100000 in
set_option maxHeartbeats 4000000 in
theorem T_Hu_takesIn : am_T am_Y am_cl am_Gw am_mi 7 b_Hu_takesIn := by
  intro E A p l e s m args below meth c Rt X hr
  refine List.forall_mem_cons.mpr ⟨am_aload_n_ok (k := 0) X (by decide +kernel), ?_⟩
  refine List.forall_mem_cons.mpr ⟨am_get_ok (C := R_Hu) (T := F_Hu) (N := 5) (idx := 9) X rfl (by decide) (fun w h => List.mem_cons_of_mem _ (u_Hu w h)) (List.mem_cons_of_mem _ w_Hu_9) (by decide +kernel), ?_⟩
  refine List.forall_mem_cons.mpr ⟨am_iload_n_ok (k := 1) X (by decide +kernel), ?_⟩
  refine List.forall_mem_cons.mpr ⟨am_zald_ok X am_Y0 (by decide +kernel), ?_⟩
  refine List.forall_mem_cons.mpr ⟨am_if_ne_ok (off := 7) X (by decide +kernel) (by decide), ?_⟩
  refine List.forall_mem_cons.mpr ⟨am_iconst_ok X (by decide +kernel), ?_⟩
  refine List.forall_mem_cons.mpr ⟨am_goto_ok (off := 4) X (by decide +kernel) (by decide), ?_⟩
  refine List.forall_mem_cons.mpr ⟨am_iconst_ok X (by decide +kernel), ?_⟩
  refine List.forall_mem_cons.mpr ⟨am_zret_ok X hr (by decide +kernel), ?_⟩
  exact fun _ h => absurd h List.not_mem_nil
abbrev b_Hu_isLower : AT := [(0, am_ald 0 1), (1, am_get am_Y 1 0), (4, am_get am_Y 4 0), (7, am_ast 3 1), (8, am_ald 0 1), (9, am_get am_Y 1 0), (12, am_get am_Y 4 1), (15, am_ast 4 2), (17, am_ald 4 2), (19, am_ild 1 1), (20, am_iald am_Y), (21, am_ald 4 2), (23, am_ild 2 1), (24, am_iald am_Y), (25, am_icmp 2 48), (28, am_ald 4 2), (30, am_ild 1 1), (31, am_iald am_Y), (32, am_ald 4 2), (34, am_ild 2 1), (35, am_iald am_Y), (36, am_icmp 1 52), (39, am_ald 3 1), (40, am_ild 1 1), (41, am_iald am_Y), (42, am_ald 3 1), (43, am_ild 2 1), (44, am_iald am_Y), (45, am_icmp 3 52), (48, am_ic 1 1), (49, am_goto 53), (52, am_ic 0 1), (53, am_zret)]
set_option maxRecDepth 100000 in
set_option maxHeartbeats 4000000 in
theorem T_Hu_isLower : am_T am_Y am_cl am_Gw am_mi 8 b_Hu_isLower := by
  intro E A p l e s m args below meth c Rt X hr
  refine List.forall_mem_cons.mpr ⟨am_aload_n_ok (k := 0) X (by decide +kernel), ?_⟩
  refine List.forall_mem_cons.mpr ⟨am_get_ok (C := R_Hu) (T := F_Hu) (N := 5) (idx := 26) X rfl (by decide) (fun w h => List.mem_cons_of_mem _ (u_Hu w h)) (List.mem_cons_of_mem _ w_Hu_26) (by decide +kernel), ?_⟩
  refine List.forall_mem_cons.mpr ⟨am_get_ok (C := R_Po) (T := F_Po) (N := 4) (idx := 56) X rfl (by decide) (fun w h => List.mem_cons_of_mem _ (u_Po w h)) (List.mem_cons_of_mem _ w_Hu_56) (by decide +kernel), ?_⟩
  refine List.forall_mem_cons.mpr ⟨am_astore_n_ok (k := 3) X (by decide) (by decide +kernel), ?_⟩
  refine List.forall_mem_cons.mpr ⟨am_aload_n_ok (k := 0) X (by decide +kernel), ?_⟩
  refine List.forall_mem_cons.mpr ⟨am_get_ok (C := R_Hu) (T := F_Hu) (N := 5) (idx := 26) X rfl (by decide) (fun w h => List.mem_cons_of_mem _ (u_Hu w h)) (List.mem_cons_of_mem _ w_Hu_26) (by decide +kernel), ?_⟩
  refine List.forall_mem_cons.mpr ⟨am_get_ok (C := R_Po) (T := F_Po) (N := 4) (idx := 59) X rfl (by decide) (fun w h => List.mem_cons_of_mem _ (u_Po w h)) (List.mem_cons_of_mem _ w_Hu_59) (by decide +kernel), ?_⟩
  refine List.forall_mem_cons.mpr ⟨am_astore_ok X (by decide) (by decide +kernel), ?_⟩
  refine List.forall_mem_cons.mpr ⟨am_aload_ok X (by decide +kernel), ?_⟩
  refine List.forall_mem_cons.mpr ⟨am_iload_n_ok (k := 1) X (by decide +kernel), ?_⟩
  refine List.forall_mem_cons.mpr ⟨am_iald_ok X am_Y0 (by decide +kernel), ?_⟩
  refine List.forall_mem_cons.mpr ⟨am_aload_ok X (by decide +kernel), ?_⟩
  refine List.forall_mem_cons.mpr ⟨am_iload_n_ok (k := 2) X (by decide +kernel), ?_⟩
  refine List.forall_mem_cons.mpr ⟨am_iald_ok X am_Y0 (by decide +kernel), ?_⟩
  refine List.forall_mem_cons.mpr ⟨am_icmp_lt_ok (off := 23) X (by decide +kernel) (by decide), ?_⟩
  refine List.forall_mem_cons.mpr ⟨am_aload_ok X (by decide +kernel), ?_⟩
  refine List.forall_mem_cons.mpr ⟨am_iload_n_ok (k := 1) X (by decide +kernel), ?_⟩
  refine List.forall_mem_cons.mpr ⟨am_iald_ok X am_Y0 (by decide +kernel), ?_⟩
  refine List.forall_mem_cons.mpr ⟨am_aload_ok X (by decide +kernel), ?_⟩
  refine List.forall_mem_cons.mpr ⟨am_iload_n_ok (k := 2) X (by decide +kernel), ?_⟩
  refine List.forall_mem_cons.mpr ⟨am_iald_ok X am_Y0 (by decide +kernel), ?_⟩
  refine List.forall_mem_cons.mpr ⟨am_icmp_ne_ok (off := 16) X (by decide +kernel) (by decide), ?_⟩
  refine List.forall_mem_cons.mpr ⟨am_aload_n_ok (k := 3) X (by decide +kernel), ?_⟩
  refine List.forall_mem_cons.mpr ⟨am_iload_n_ok (k := 1) X (by decide +kernel), ?_⟩
  refine List.forall_mem_cons.mpr ⟨am_iald_ok X am_Y0 (by decide +kernel), ?_⟩
  refine List.forall_mem_cons.mpr ⟨am_aload_n_ok (k := 3) X (by decide +kernel), ?_⟩
  refine List.forall_mem_cons.mpr ⟨am_iload_n_ok (k := 2) X (by decide +kernel), ?_⟩
  refine List.forall_mem_cons.mpr ⟨am_iald_ok X am_Y0 (by decide +kernel), ?_⟩
  refine List.forall_mem_cons.mpr ⟨am_icmp_ge_ok (off := 7) X (by decide +kernel) (by decide), ?_⟩
  refine List.forall_mem_cons.mpr ⟨am_iconst_ok X (by decide +kernel), ?_⟩
  refine List.forall_mem_cons.mpr ⟨am_goto_ok (off := 4) X (by decide +kernel) (by decide), ?_⟩
  refine List.forall_mem_cons.mpr ⟨am_iconst_ok X (by decide +kernel), ?_⟩
  refine List.forall_mem_cons.mpr ⟨am_zret_ok X hr (by decide +kernel), ?_⟩
  exact fun _ h => absurd h List.not_mem_nil
abbrev b_Hu_lowest : AT := [(0, am_ic (-1) 1), (1, am_ist 1 1), (2, am_ic 0 1), (3, am_ist 2 1), (4, am_ild 2 1), (5, am_ald 0 1), (6, am_get am_Y 1 0), (9, am_get am_Y 4 2), (12, am_icmp 3 45), (15, am_ald 0 1), (16, am_ild 2 1), (17, am_callV am_Y 1 7 1), (20, am_if 0 39), (23, am_ild 1 1), (24, am_ic (-1) 1), (25, am_icmp 0 37), (28, am_ald 0 1), (29, am_ild 2 1), (30, am_ild 1 1), (31, am_callV am_Y 1 8 2), (34, am_if 0 39), (37, am_ild 2 1), (38, am_ist 1 1), (39, am_inc 2 (1)), (42, am_goto 4), (45, am_ild 1 1), (46, am_ret)]
set_option maxRecDepth 100000 in
set_option maxHeartbeats 4000000 in
theorem T_Hu_lowest : am_T am_Y am_cl am_Gw am_mi 9 b_Hu_lowest := by
  intro E A p l e s m args below meth c Rt X hr
  refine List.forall_mem_cons.mpr ⟨am_iconst_ok X (by decide +kernel), ?_⟩
  refine List.forall_mem_cons.mpr ⟨am_istore_n_ok (k := 1) X (by decide) (by decide +kernel), ?_⟩
  refine List.forall_mem_cons.mpr ⟨am_iconst_ok X (by decide +kernel), ?_⟩
  refine List.forall_mem_cons.mpr ⟨am_istore_n_ok (k := 2) X (by decide) (by decide +kernel), ?_⟩
  refine List.forall_mem_cons.mpr ⟨am_iload_n_ok (k := 2) X (by decide +kernel), ?_⟩
  refine List.forall_mem_cons.mpr ⟨am_aload_n_ok (k := 0) X (by decide +kernel), ?_⟩
  refine List.forall_mem_cons.mpr ⟨am_get_ok (C := R_Hu) (T := F_Hu) (N := 5) (idx := 26) X rfl (by decide) (fun w h => List.mem_cons_of_mem _ (u_Hu w h)) (List.mem_cons_of_mem _ w_Hu_26) (by decide +kernel), ?_⟩
  refine List.forall_mem_cons.mpr ⟨am_get_ok (C := R_Po) (T := F_Po) (N := 4) (idx := 47) X rfl (by decide) (fun w h => List.mem_cons_of_mem _ (u_Po w h)) (List.mem_cons_of_mem _ w_Hu_47) (by decide +kernel), ?_⟩
  refine List.forall_mem_cons.mpr ⟨am_icmp_ge_ok (off := 33) X (by decide +kernel) (by decide), ?_⟩
  refine List.forall_mem_cons.mpr ⟨am_aload_n_ok (k := 0) X (by decide +kernel), ?_⟩
  refine List.forall_mem_cons.mpr ⟨am_iload_n_ok (k := 2) X (by decide +kernel), ?_⟩
  refine List.forall_mem_cons.mpr ⟨am_callV_ok (C := R_Hu) (T := F_Hu) (N := 5) (idx := 48) X rfl (am_GV m_Hu_48 v_Hu_takesIn.1 v_Hu_takesIn.2.1 v_Hu_takesIn.2.2.1 v_Hu_takesIn.2.2.2) ⟨rfl, v_Hu_takesInd⟩ ⟨by decide, by decide⟩ (Nat.zero_le _) (by decide +kernel), ?_⟩
  refine List.forall_mem_cons.mpr ⟨am_if_eq_ok (off := 19) X (by decide +kernel) (by decide), ?_⟩
  refine List.forall_mem_cons.mpr ⟨am_iload_n_ok (k := 1) X (by decide +kernel), ?_⟩
  refine List.forall_mem_cons.mpr ⟨am_iconst_ok X (by decide +kernel), ?_⟩
  refine List.forall_mem_cons.mpr ⟨am_icmp_eq_ok (off := 12) X (by decide +kernel) (by decide), ?_⟩
  refine List.forall_mem_cons.mpr ⟨am_aload_n_ok (k := 0) X (by decide +kernel), ?_⟩
  refine List.forall_mem_cons.mpr ⟨am_iload_n_ok (k := 2) X (by decide +kernel), ?_⟩
  refine List.forall_mem_cons.mpr ⟨am_iload_n_ok (k := 1) X (by decide +kernel), ?_⟩
  refine List.forall_mem_cons.mpr ⟨am_callV_ok (C := R_Hu) (T := F_Hu) (N := 5) (idx := 52) X rfl (am_GV m_Hu_52 v_Hu_isLower.1 v_Hu_isLower.2.1 v_Hu_isLower.2.2.1 v_Hu_isLower.2.2.2) ⟨rfl, v_Hu_isLowerd⟩ ⟨by decide, by decide⟩ (Nat.zero_le _) (by decide +kernel), ?_⟩
  refine List.forall_mem_cons.mpr ⟨am_if_eq_ok (off := 5) X (by decide +kernel) (by decide), ?_⟩
  refine List.forall_mem_cons.mpr ⟨am_iload_n_ok (k := 2) X (by decide +kernel), ?_⟩
  refine List.forall_mem_cons.mpr ⟨am_istore_n_ok (k := 1) X (by decide) (by decide +kernel), ?_⟩
  refine List.forall_mem_cons.mpr ⟨am_iinc_ok X (by decide) (by decide +kernel), ?_⟩
  refine List.forall_mem_cons.mpr ⟨am_goto_ok (off := -38) X (by decide +kernel) (by decide), ?_⟩
  refine List.forall_mem_cons.mpr ⟨am_iload_n_ok (k := 1) X (by decide +kernel), ?_⟩
  refine List.forall_mem_cons.mpr ⟨am_ret_ok X hr (by decide +kernel), ?_⟩
  exact fun _ h => absurd h List.not_mem_nil
abbrev b_Po_areAtOnePlace : AT := [(0, am_ald 0 1), (1, am_get am_Y 4 0), (4, am_ild 1 1), (5, am_iald am_Y), (6, am_ald 0 1), (7, am_get am_Y 4 0), (10, am_ild 2 1), (11, am_iald am_Y), (12, am_icmp 1 34), (15, am_ald 0 1), (16, am_get am_Y 4 1), (19, am_ild 1 1), (20, am_iald am_Y), (21, am_ald 0 1), (22, am_get am_Y 4 1), (25, am_ild 2 1), (26, am_iald am_Y), (27, am_icmp 1 34), (30, am_ic 1 1), (31, am_goto 35), (34, am_ic 0 1), (35, am_zret)]
set_option maxRecDepth 100000 in
set_option maxHeartbeats 4000000 in
theorem T_Po_areAtOnePlace : am_T am_Y am_cl am_Gw am_mi 10 b_Po_areAtOnePlace := by
  intro E A p l e s m args below meth c Rt X hr
  refine List.forall_mem_cons.mpr ⟨am_aload_n_ok (k := 0) X (by decide +kernel), ?_⟩
  refine List.forall_mem_cons.mpr ⟨am_get_ok (C := R_Po) (T := F_Po) (N := 4) (idx := 9) X rfl (by decide) (fun w h => List.mem_cons_of_mem _ (u_Po w h)) (List.mem_cons_of_mem _ w_Po_9) (by decide +kernel), ?_⟩
  refine List.forall_mem_cons.mpr ⟨am_iload_n_ok (k := 1) X (by decide +kernel), ?_⟩
  refine List.forall_mem_cons.mpr ⟨am_iald_ok X am_Y0 (by decide +kernel), ?_⟩
  refine List.forall_mem_cons.mpr ⟨am_aload_n_ok (k := 0) X (by decide +kernel), ?_⟩
  refine List.forall_mem_cons.mpr ⟨am_get_ok (C := R_Po) (T := F_Po) (N := 4) (idx := 9) X rfl (by decide) (fun w h => List.mem_cons_of_mem _ (u_Po w h)) (List.mem_cons_of_mem _ w_Po_9) (by decide +kernel), ?_⟩
  refine List.forall_mem_cons.mpr ⟨am_iload_n_ok (k := 2) X (by decide +kernel), ?_⟩
  refine List.forall_mem_cons.mpr ⟨am_iald_ok X am_Y0 (by decide +kernel), ?_⟩
  refine List.forall_mem_cons.mpr ⟨am_icmp_ne_ok (off := 22) X (by decide +kernel) (by decide), ?_⟩
  refine List.forall_mem_cons.mpr ⟨am_aload_n_ok (k := 0) X (by decide +kernel), ?_⟩
  refine List.forall_mem_cons.mpr ⟨am_get_ok (C := R_Po) (T := F_Po) (N := 4) (idx := 15) X rfl (by decide) (fun w h => List.mem_cons_of_mem _ (u_Po w h)) (List.mem_cons_of_mem _ w_Po_15) (by decide +kernel), ?_⟩
  refine List.forall_mem_cons.mpr ⟨am_iload_n_ok (k := 1) X (by decide +kernel), ?_⟩
  refine List.forall_mem_cons.mpr ⟨am_iald_ok X am_Y0 (by decide +kernel), ?_⟩
  refine List.forall_mem_cons.mpr ⟨am_aload_n_ok (k := 0) X (by decide +kernel), ?_⟩
  refine List.forall_mem_cons.mpr ⟨am_get_ok (C := R_Po) (T := F_Po) (N := 4) (idx := 15) X rfl (by decide) (fun w h => List.mem_cons_of_mem _ (u_Po w h)) (List.mem_cons_of_mem _ w_Po_15) (by decide +kernel), ?_⟩
  refine List.forall_mem_cons.mpr ⟨am_iload_n_ok (k := 2) X (by decide +kernel), ?_⟩
  refine List.forall_mem_cons.mpr ⟨am_iald_ok X am_Y0 (by decide +kernel), ?_⟩
  refine List.forall_mem_cons.mpr ⟨am_icmp_ne_ok (off := 7) X (by decide +kernel) (by decide), ?_⟩
  refine List.forall_mem_cons.mpr ⟨am_iconst_ok X (by decide +kernel), ?_⟩
  refine List.forall_mem_cons.mpr ⟨am_goto_ok (off := 4) X (by decide +kernel) (by decide), ?_⟩
  refine List.forall_mem_cons.mpr ⟨am_iconst_ok X (by decide +kernel), ?_⟩
  refine List.forall_mem_cons.mpr ⟨am_zret_ok X hr (by decide +kernel), ?_⟩
  exact fun _ h => absurd h List.not_mem_nil
abbrev b_Po_crossProduct : AT := [(0, am_ald 0 1), (1, am_get am_Y 4 0), (4, am_ild 2 1), (5, am_iald am_Y), (6, am_ald 0 1), (7, am_get am_Y 4 0), (10, am_ild 1 1), (11, am_iald am_Y), (12, am_isub), (13, am_i2l), (14, am_lst 4 2), (16, am_ald 0 1), (17, am_get am_Y 4 1), (20, am_ild 2 1), (21, am_iald am_Y), (22, am_ald 0 1), (23, am_get am_Y 4 1), (26, am_ild 1 1), (27, am_iald am_Y), (28, am_isub), (29, am_i2l), (30, am_lst 6 2), (32, am_lld 4 2), (34, am_ald 0 1), (35, am_get am_Y 4 1), (38, am_ild 3 1), (39, am_iald am_Y), (40, am_ald 0 1), (41, am_get am_Y 4 1), (44, am_ild 1 1), (45, am_iald am_Y), (46, am_isub), (47, am_i2l), (48, am_lmul), (49, am_lld 6 2), (51, am_ald 0 1), (52, am_get am_Y 4 0), (55, am_ild 3 1), (56, am_iald am_Y), (57, am_ald 0 1), (58, am_get am_Y 4 0), (61, am_ild 1 1), (62, am_iald am_Y), (63, am_isub), (64, am_i2l), (65, am_lmul), (66, am_lsub), (67, am_lret)]
set_option maxRecDepth 100000 in
set_option maxHeartbeats 4000000 in
theorem T_Po_crossProduct : am_T am_Y am_cl am_Gw am_mi 11 b_Po_crossProduct := by
  intro E A p l e s m args below meth c Rt X hr
  refine List.forall_mem_cons.mpr ⟨am_aload_n_ok (k := 0) X (by decide +kernel), ?_⟩
  refine List.forall_mem_cons.mpr ⟨am_get_ok (C := R_Po) (T := F_Po) (N := 4) (idx := 9) X rfl (by decide) (fun w h => List.mem_cons_of_mem _ (u_Po w h)) (List.mem_cons_of_mem _ w_Po_9) (by decide +kernel), ?_⟩
  refine List.forall_mem_cons.mpr ⟨am_iload_n_ok (k := 2) X (by decide +kernel), ?_⟩
  refine List.forall_mem_cons.mpr ⟨am_iald_ok X am_Y0 (by decide +kernel), ?_⟩
  refine List.forall_mem_cons.mpr ⟨am_aload_n_ok (k := 0) X (by decide +kernel), ?_⟩
  refine List.forall_mem_cons.mpr ⟨am_get_ok (C := R_Po) (T := F_Po) (N := 4) (idx := 9) X rfl (by decide) (fun w h => List.mem_cons_of_mem _ (u_Po w h)) (List.mem_cons_of_mem _ w_Po_9) (by decide +kernel), ?_⟩
  refine List.forall_mem_cons.mpr ⟨am_iload_n_ok (k := 1) X (by decide +kernel), ?_⟩
  refine List.forall_mem_cons.mpr ⟨am_iald_ok X am_Y0 (by decide +kernel), ?_⟩
  refine List.forall_mem_cons.mpr ⟨am_isub_ok X (by decide +kernel), ?_⟩
  refine List.forall_mem_cons.mpr ⟨am_i2l_ok X (by decide +kernel), ?_⟩
  refine List.forall_mem_cons.mpr ⟨am_lstore_ok X (by decide) (by decide +kernel), ?_⟩
  refine List.forall_mem_cons.mpr ⟨am_aload_n_ok (k := 0) X (by decide +kernel), ?_⟩
  refine List.forall_mem_cons.mpr ⟨am_get_ok (C := R_Po) (T := F_Po) (N := 4) (idx := 15) X rfl (by decide) (fun w h => List.mem_cons_of_mem _ (u_Po w h)) (List.mem_cons_of_mem _ w_Po_15) (by decide +kernel), ?_⟩
  refine List.forall_mem_cons.mpr ⟨am_iload_n_ok (k := 2) X (by decide +kernel), ?_⟩
  refine List.forall_mem_cons.mpr ⟨am_iald_ok X am_Y0 (by decide +kernel), ?_⟩
  refine List.forall_mem_cons.mpr ⟨am_aload_n_ok (k := 0) X (by decide +kernel), ?_⟩
  refine List.forall_mem_cons.mpr ⟨am_get_ok (C := R_Po) (T := F_Po) (N := 4) (idx := 15) X rfl (by decide) (fun w h => List.mem_cons_of_mem _ (u_Po w h)) (List.mem_cons_of_mem _ w_Po_15) (by decide +kernel), ?_⟩
  refine List.forall_mem_cons.mpr ⟨am_iload_n_ok (k := 1) X (by decide +kernel), ?_⟩
  refine List.forall_mem_cons.mpr ⟨am_iald_ok X am_Y0 (by decide +kernel), ?_⟩
  refine List.forall_mem_cons.mpr ⟨am_isub_ok X (by decide +kernel), ?_⟩
  refine List.forall_mem_cons.mpr ⟨am_i2l_ok X (by decide +kernel), ?_⟩
  refine List.forall_mem_cons.mpr ⟨am_lstore_ok X (by decide) (by decide +kernel), ?_⟩
  refine List.forall_mem_cons.mpr ⟨am_lload_ok X (by decide +kernel), ?_⟩
  refine List.forall_mem_cons.mpr ⟨am_aload_n_ok (k := 0) X (by decide +kernel), ?_⟩
  refine List.forall_mem_cons.mpr ⟨am_get_ok (C := R_Po) (T := F_Po) (N := 4) (idx := 15) X rfl (by decide) (fun w h => List.mem_cons_of_mem _ (u_Po w h)) (List.mem_cons_of_mem _ w_Po_15) (by decide +kernel), ?_⟩
  refine List.forall_mem_cons.mpr ⟨am_iload_n_ok (k := 3) X (by decide +kernel), ?_⟩
  refine List.forall_mem_cons.mpr ⟨am_iald_ok X am_Y0 (by decide +kernel), ?_⟩
  refine List.forall_mem_cons.mpr ⟨am_aload_n_ok (k := 0) X (by decide +kernel), ?_⟩
  refine List.forall_mem_cons.mpr ⟨am_get_ok (C := R_Po) (T := F_Po) (N := 4) (idx := 15) X rfl (by decide) (fun w h => List.mem_cons_of_mem _ (u_Po w h)) (List.mem_cons_of_mem _ w_Po_15) (by decide +kernel), ?_⟩
  refine List.forall_mem_cons.mpr ⟨am_iload_n_ok (k := 1) X (by decide +kernel), ?_⟩
  refine List.forall_mem_cons.mpr ⟨am_iald_ok X am_Y0 (by decide +kernel), ?_⟩
  refine List.forall_mem_cons.mpr ⟨am_isub_ok X (by decide +kernel), ?_⟩
  refine List.forall_mem_cons.mpr ⟨am_i2l_ok X (by decide +kernel), ?_⟩
  refine List.forall_mem_cons.mpr ⟨am_lmul_ok X (by decide +kernel), ?_⟩
  refine List.forall_mem_cons.mpr ⟨am_lload_ok X (by decide +kernel), ?_⟩
  refine List.forall_mem_cons.mpr ⟨am_aload_n_ok (k := 0) X (by decide +kernel), ?_⟩
  refine List.forall_mem_cons.mpr ⟨am_get_ok (C := R_Po) (T := F_Po) (N := 4) (idx := 9) X rfl (by decide) (fun w h => List.mem_cons_of_mem _ (u_Po w h)) (List.mem_cons_of_mem _ w_Po_9) (by decide +kernel), ?_⟩
  refine List.forall_mem_cons.mpr ⟨am_iload_n_ok (k := 3) X (by decide +kernel), ?_⟩
  refine List.forall_mem_cons.mpr ⟨am_iald_ok X am_Y0 (by decide +kernel), ?_⟩
  refine List.forall_mem_cons.mpr ⟨am_aload_n_ok (k := 0) X (by decide +kernel), ?_⟩
  refine List.forall_mem_cons.mpr ⟨am_get_ok (C := R_Po) (T := F_Po) (N := 4) (idx := 9) X rfl (by decide) (fun w h => List.mem_cons_of_mem _ (u_Po w h)) (List.mem_cons_of_mem _ w_Po_9) (by decide +kernel), ?_⟩
  refine List.forall_mem_cons.mpr ⟨am_iload_n_ok (k := 1) X (by decide +kernel), ?_⟩
  refine List.forall_mem_cons.mpr ⟨am_iald_ok X am_Y0 (by decide +kernel), ?_⟩
  refine List.forall_mem_cons.mpr ⟨am_isub_ok X (by decide +kernel), ?_⟩
  refine List.forall_mem_cons.mpr ⟨am_i2l_ok X (by decide +kernel), ?_⟩
  refine List.forall_mem_cons.mpr ⟨am_lmul_ok X (by decide +kernel), ?_⟩
  refine List.forall_mem_cons.mpr ⟨am_lsub_ok X (by decide +kernel), ?_⟩
  refine List.forall_mem_cons.mpr ⟨am_lret_ok X hr (by decide +kernel), ?_⟩
  exact fun _ h => absurd h List.not_mem_nil
abbrev b_Po_squaredDistance : AT := [(0, am_ald 0 1), (1, am_get am_Y 4 0), (4, am_ild 2 1), (5, am_iald am_Y), (6, am_ald 0 1), (7, am_get am_Y 4 0), (10, am_ild 1 1), (11, am_iald am_Y), (12, am_isub), (13, am_i2l), (14, am_lst 3 1), (15, am_ald 0 1), (16, am_get am_Y 4 1), (19, am_ild 2 1), (20, am_iald am_Y), (21, am_ald 0 1), (22, am_get am_Y 4 1), (25, am_ild 1 1), (26, am_iald am_Y), (27, am_isub), (28, am_i2l), (29, am_lst 5 2), (31, am_lld 3 1), (32, am_lld 3 1), (33, am_lmul), (34, am_lld 5 2), (36, am_lld 5 2), (38, am_lmul), (39, am_ladd), (40, am_lret)]
set_option maxRecDepth 100000 in
set_option maxHeartbeats 4000000 in
theorem T_Po_squaredDistance : am_T am_Y am_cl am_Gw am_mi 12 b_Po_squaredDistance := by
  intro E A p l e s m args below meth c Rt X hr
  refine List.forall_mem_cons.mpr ⟨am_aload_n_ok (k := 0) X (by decide +kernel), ?_⟩
  refine List.forall_mem_cons.mpr ⟨am_get_ok (C := R_Po) (T := F_Po) (N := 4) (idx := 9) X rfl (by decide) (fun w h => List.mem_cons_of_mem _ (u_Po w h)) (List.mem_cons_of_mem _ w_Po_9) (by decide +kernel), ?_⟩
  refine List.forall_mem_cons.mpr ⟨am_iload_n_ok (k := 2) X (by decide +kernel), ?_⟩
  refine List.forall_mem_cons.mpr ⟨am_iald_ok X am_Y0 (by decide +kernel), ?_⟩
  refine List.forall_mem_cons.mpr ⟨am_aload_n_ok (k := 0) X (by decide +kernel), ?_⟩
  refine List.forall_mem_cons.mpr ⟨am_get_ok (C := R_Po) (T := F_Po) (N := 4) (idx := 9) X rfl (by decide) (fun w h => List.mem_cons_of_mem _ (u_Po w h)) (List.mem_cons_of_mem _ w_Po_9) (by decide +kernel), ?_⟩
  refine List.forall_mem_cons.mpr ⟨am_iload_n_ok (k := 1) X (by decide +kernel), ?_⟩
  refine List.forall_mem_cons.mpr ⟨am_iald_ok X am_Y0 (by decide +kernel), ?_⟩
  refine List.forall_mem_cons.mpr ⟨am_isub_ok X (by decide +kernel), ?_⟩
  refine List.forall_mem_cons.mpr ⟨am_i2l_ok X (by decide +kernel), ?_⟩
  refine List.forall_mem_cons.mpr ⟨am_lstore_n_ok (k := 3) X (by decide) (by decide +kernel), ?_⟩
  refine List.forall_mem_cons.mpr ⟨am_aload_n_ok (k := 0) X (by decide +kernel), ?_⟩
  refine List.forall_mem_cons.mpr ⟨am_get_ok (C := R_Po) (T := F_Po) (N := 4) (idx := 15) X rfl (by decide) (fun w h => List.mem_cons_of_mem _ (u_Po w h)) (List.mem_cons_of_mem _ w_Po_15) (by decide +kernel), ?_⟩
  refine List.forall_mem_cons.mpr ⟨am_iload_n_ok (k := 2) X (by decide +kernel), ?_⟩
  refine List.forall_mem_cons.mpr ⟨am_iald_ok X am_Y0 (by decide +kernel), ?_⟩
  refine List.forall_mem_cons.mpr ⟨am_aload_n_ok (k := 0) X (by decide +kernel), ?_⟩
  refine List.forall_mem_cons.mpr ⟨am_get_ok (C := R_Po) (T := F_Po) (N := 4) (idx := 15) X rfl (by decide) (fun w h => List.mem_cons_of_mem _ (u_Po w h)) (List.mem_cons_of_mem _ w_Po_15) (by decide +kernel), ?_⟩
  refine List.forall_mem_cons.mpr ⟨am_iload_n_ok (k := 1) X (by decide +kernel), ?_⟩
  refine List.forall_mem_cons.mpr ⟨am_iald_ok X am_Y0 (by decide +kernel), ?_⟩
  refine List.forall_mem_cons.mpr ⟨am_isub_ok X (by decide +kernel), ?_⟩
  refine List.forall_mem_cons.mpr ⟨am_i2l_ok X (by decide +kernel), ?_⟩
  refine List.forall_mem_cons.mpr ⟨am_lstore_ok X (by decide) (by decide +kernel), ?_⟩
  refine List.forall_mem_cons.mpr ⟨am_lload_n_ok (k := 3) X (by decide +kernel), ?_⟩
  refine List.forall_mem_cons.mpr ⟨am_lload_n_ok (k := 3) X (by decide +kernel), ?_⟩
  refine List.forall_mem_cons.mpr ⟨am_lmul_ok X (by decide +kernel), ?_⟩
  refine List.forall_mem_cons.mpr ⟨am_lload_ok X (by decide +kernel), ?_⟩
  refine List.forall_mem_cons.mpr ⟨am_lload_ok X (by decide +kernel), ?_⟩
  refine List.forall_mem_cons.mpr ⟨am_lmul_ok X (by decide +kernel), ?_⟩
  refine List.forall_mem_cons.mpr ⟨am_ladd_ok X (by decide +kernel), ?_⟩
  refine List.forall_mem_cons.mpr ⟨am_lret_ok X hr (by decide +kernel), ?_⟩
  exact fun _ h => absurd h List.not_mem_nil
abbrev b_Hu_isBetter : AT := [(0, am_ald 0 1), (1, am_get am_Y 1 0), (4, am_ild 1 1), (5, am_ild 3 1), (6, am_ild 2 1), (7, am_callV am_Y 4 11 3), (10, am_lst 4 2), (12, am_lld 4 2), (14, am_lc 0 1), (15, am_lcmp 2 48), (19, am_lld 4 2), (21, am_lc 0 1), (22, am_lcmp 1 52), (26, am_ald 0 1), (27, am_get am_Y 1 0), (30, am_ild 1 1), (31, am_ild 2 1), (32, am_callV am_Y 4 12 2), (35, am_ald 0 1), (36, am_get am_Y 1 0), (39, am_ild 1 1), (40, am_ild 3 1), (41, am_callV am_Y 4 12 2), (44, am_lcmp 5 52), (48, am_ic 1 1), (49, am_goto 53), (52, am_ic 0 1), (53, am_zret)]
set_option maxRecDepth 100000 in
set_option maxHeartbeats 4000000 in
theorem T_Hu_isBetter : am_T am_Y am_cl am_Gw am_mi 13 b_Hu_isBetter := by
  intro E A p l e s m args below meth c Rt X hr
  refine List.forall_mem_cons.mpr ⟨am_aload_n_ok (k := 0) X (by decide +kernel), ?_⟩
  refine List.forall_mem_cons.mpr ⟨am_get_ok (C := R_Hu) (T := F_Hu) (N := 5) (idx := 26) X rfl (by decide) (fun w h => List.mem_cons_of_mem _ (u_Hu w h)) (List.mem_cons_of_mem _ w_Hu_26) (by decide +kernel), ?_⟩
  refine List.forall_mem_cons.mpr ⟨am_iload_n_ok (k := 1) X (by decide +kernel), ?_⟩
  refine List.forall_mem_cons.mpr ⟨am_iload_n_ok (k := 3) X (by decide +kernel), ?_⟩
  refine List.forall_mem_cons.mpr ⟨am_iload_n_ok (k := 2) X (by decide +kernel), ?_⟩
  refine List.forall_mem_cons.mpr ⟨am_callV_ok (C := R_Po) (T := F_Po) (N := 4) (idx := 69) X rfl (am_GV m_Hu_69 v_Po_crossProduct.1 v_Po_crossProduct.2.1 v_Po_crossProduct.2.2.1 v_Po_crossProduct.2.2.2) ⟨rfl, v_Po_crossProductd⟩ ⟨by decide, by decide⟩ (Nat.zero_le _) (by decide +kernel), ?_⟩
  refine List.forall_mem_cons.mpr ⟨am_lstore_ok X (by decide) (by decide +kernel), ?_⟩
  refine List.forall_mem_cons.mpr ⟨am_lload_ok X (by decide +kernel), ?_⟩
  refine List.forall_mem_cons.mpr ⟨am_lconst_ok (n := 0) X (by decide +kernel), ?_⟩
  refine List.forall_mem_cons.mpr ⟨am_lcmp_lt_ok (off := 32) X (by decide +kernel) (by decide +kernel) (by decide), ?_⟩
  refine List.forall_mem_cons.mpr ⟨am_lload_ok X (by decide +kernel), ?_⟩
  refine List.forall_mem_cons.mpr ⟨am_lconst_ok (n := 0) X (by decide +kernel), ?_⟩
  refine List.forall_mem_cons.mpr ⟨am_lcmp_ne_ok (off := 29) X (by decide +kernel) (by decide +kernel) (by decide), ?_⟩
  refine List.forall_mem_cons.mpr ⟨am_aload_n_ok (k := 0) X (by decide +kernel), ?_⟩
  refine List.forall_mem_cons.mpr ⟨am_get_ok (C := R_Hu) (T := F_Hu) (N := 5) (idx := 26) X rfl (by decide) (fun w h => List.mem_cons_of_mem _ (u_Hu w h)) (List.mem_cons_of_mem _ w_Hu_26) (by decide +kernel), ?_⟩
  refine List.forall_mem_cons.mpr ⟨am_iload_n_ok (k := 1) X (by decide +kernel), ?_⟩
  refine List.forall_mem_cons.mpr ⟨am_iload_n_ok (k := 2) X (by decide +kernel), ?_⟩
  refine List.forall_mem_cons.mpr ⟨am_callV_ok (C := R_Po) (T := F_Po) (N := 4) (idx := 73) X rfl (am_GV m_Hu_73 v_Po_squaredDistance.1 v_Po_squaredDistance.2.1 v_Po_squaredDistance.2.2.1 v_Po_squaredDistance.2.2.2) ⟨rfl, v_Po_squaredDistanced⟩ ⟨by decide, by decide⟩ (Nat.zero_le _) (by decide +kernel), ?_⟩
  refine List.forall_mem_cons.mpr ⟨am_aload_n_ok (k := 0) X (by decide +kernel), ?_⟩
  refine List.forall_mem_cons.mpr ⟨am_get_ok (C := R_Hu) (T := F_Hu) (N := 5) (idx := 26) X rfl (by decide) (fun w h => List.mem_cons_of_mem _ (u_Hu w h)) (List.mem_cons_of_mem _ w_Hu_26) (by decide +kernel), ?_⟩
  refine List.forall_mem_cons.mpr ⟨am_iload_n_ok (k := 1) X (by decide +kernel), ?_⟩
  refine List.forall_mem_cons.mpr ⟨am_iload_n_ok (k := 3) X (by decide +kernel), ?_⟩
  refine List.forall_mem_cons.mpr ⟨am_callV_ok (C := R_Po) (T := F_Po) (N := 4) (idx := 73) X rfl (am_GV m_Hu_73 v_Po_squaredDistance.1 v_Po_squaredDistance.2.1 v_Po_squaredDistance.2.2.1 v_Po_squaredDistance.2.2.2) ⟨rfl, v_Po_squaredDistanced⟩ ⟨by decide, by decide⟩ (Nat.zero_le _) (by decide +kernel), ?_⟩
  refine List.forall_mem_cons.mpr ⟨am_lcmp_le_ok (off := 7) X (by decide +kernel) (by decide +kernel) (by decide), ?_⟩
  refine List.forall_mem_cons.mpr ⟨am_iconst_ok X (by decide +kernel), ?_⟩
  refine List.forall_mem_cons.mpr ⟨am_goto_ok (off := 4) X (by decide +kernel) (by decide), ?_⟩
  refine List.forall_mem_cons.mpr ⟨am_iconst_ok X (by decide +kernel), ?_⟩
  refine List.forall_mem_cons.mpr ⟨am_zret_ok X hr (by decide +kernel), ?_⟩
  exact fun _ h => absurd h List.not_mem_nil
abbrev b_Hu_cornerBehind : AT := [(0, am_ic (-1) 1), (1, am_ist 2 1), (2, am_ic 0 1), (3, am_ist 3 1), (4, am_ild 3 1), (5, am_ald 0 1), (6, am_get am_Y 1 0), (9, am_get am_Y 4 2), (12, am_icmp 3 58), (15, am_ald 0 1), (16, am_ild 3 1), (17, am_callV am_Y 1 7 1), (20, am_if 0 52), (23, am_ald 0 1), (24, am_get am_Y 1 0), (27, am_ild 1 1), (28, am_ild 3 1), (29, am_callV am_Y 4 10 2), (32, am_if 1 52), (35, am_ild 2 1), (36, am_ic (-1) 1), (37, am_icmp 0 50), (40, am_ald 0 1), (41, am_ild 1 1), (42, am_ild 3 1), (43, am_ild 2 1), (44, am_callV am_Y 1 13 3), (47, am_if 0 52), (50, am_ild 3 1), (51, am_ist 2 1), (52, am_inc 3 (1)), (55, am_goto 4), (58, am_ild 2 1), (59, am_ret)]
set_option maxRecDepth 100000 in
set_option maxHeartbeats 4000000 in
theorem T_Hu_cornerBehind : am_T am_Y am_cl am_Gw am_mi 14 b_Hu_cornerBehind := by
  intro E A p l e s m args below meth c Rt X hr
  refine List.forall_mem_cons.mpr ⟨am_iconst_ok X (by decide +kernel), ?_⟩
  refine List.forall_mem_cons.mpr ⟨am_istore_n_ok (k := 2) X (by decide) (by decide +kernel), ?_⟩
  refine List.forall_mem_cons.mpr ⟨am_iconst_ok X (by decide +kernel), ?_⟩
  refine List.forall_mem_cons.mpr ⟨am_istore_n_ok (k := 3) X (by decide) (by decide +kernel), ?_⟩
  refine List.forall_mem_cons.mpr ⟨am_iload_n_ok (k := 3) X (by decide +kernel), ?_⟩
  refine List.forall_mem_cons.mpr ⟨am_aload_n_ok (k := 0) X (by decide +kernel), ?_⟩
  refine List.forall_mem_cons.mpr ⟨am_get_ok (C := R_Hu) (T := F_Hu) (N := 5) (idx := 26) X rfl (by decide) (fun w h => List.mem_cons_of_mem _ (u_Hu w h)) (List.mem_cons_of_mem _ w_Hu_26) (by decide +kernel), ?_⟩
  refine List.forall_mem_cons.mpr ⟨am_get_ok (C := R_Po) (T := F_Po) (N := 4) (idx := 47) X rfl (by decide) (fun w h => List.mem_cons_of_mem _ (u_Po w h)) (List.mem_cons_of_mem _ w_Hu_47) (by decide +kernel), ?_⟩
  refine List.forall_mem_cons.mpr ⟨am_icmp_ge_ok (off := 46) X (by decide +kernel) (by decide), ?_⟩
  refine List.forall_mem_cons.mpr ⟨am_aload_n_ok (k := 0) X (by decide +kernel), ?_⟩
  refine List.forall_mem_cons.mpr ⟨am_iload_n_ok (k := 3) X (by decide +kernel), ?_⟩
  refine List.forall_mem_cons.mpr ⟨am_callV_ok (C := R_Hu) (T := F_Hu) (N := 5) (idx := 48) X rfl (am_GV m_Hu_48 v_Hu_takesIn.1 v_Hu_takesIn.2.1 v_Hu_takesIn.2.2.1 v_Hu_takesIn.2.2.2) ⟨rfl, v_Hu_takesInd⟩ ⟨by decide, by decide⟩ (Nat.zero_le _) (by decide +kernel), ?_⟩
  refine List.forall_mem_cons.mpr ⟨am_if_eq_ok (off := 32) X (by decide +kernel) (by decide), ?_⟩
  refine List.forall_mem_cons.mpr ⟨am_aload_n_ok (k := 0) X (by decide +kernel), ?_⟩
  refine List.forall_mem_cons.mpr ⟨am_get_ok (C := R_Hu) (T := F_Hu) (N := 5) (idx := 26) X rfl (by decide) (fun w h => List.mem_cons_of_mem _ (u_Hu w h)) (List.mem_cons_of_mem _ w_Hu_26) (by decide +kernel), ?_⟩
  refine List.forall_mem_cons.mpr ⟨am_iload_n_ok (k := 1) X (by decide +kernel), ?_⟩
  refine List.forall_mem_cons.mpr ⟨am_iload_n_ok (k := 3) X (by decide +kernel), ?_⟩
  refine List.forall_mem_cons.mpr ⟨am_callV_ok (C := R_Po) (T := F_Po) (N := 4) (idx := 62) X rfl (am_GV m_Hu_62 v_Po_areAtOnePlace.1 v_Po_areAtOnePlace.2.1 v_Po_areAtOnePlace.2.2.1 v_Po_areAtOnePlace.2.2.2) ⟨rfl, v_Po_areAtOnePlaced⟩ ⟨by decide, by decide⟩ (Nat.zero_le _) (by decide +kernel), ?_⟩
  refine List.forall_mem_cons.mpr ⟨am_if_ne_ok (off := 20) X (by decide +kernel) (by decide), ?_⟩
  refine List.forall_mem_cons.mpr ⟨am_iload_n_ok (k := 2) X (by decide +kernel), ?_⟩
  refine List.forall_mem_cons.mpr ⟨am_iconst_ok X (by decide +kernel), ?_⟩
  refine List.forall_mem_cons.mpr ⟨am_icmp_eq_ok (off := 13) X (by decide +kernel) (by decide), ?_⟩
  refine List.forall_mem_cons.mpr ⟨am_aload_n_ok (k := 0) X (by decide +kernel), ?_⟩
  refine List.forall_mem_cons.mpr ⟨am_iload_n_ok (k := 1) X (by decide +kernel), ?_⟩
  refine List.forall_mem_cons.mpr ⟨am_iload_n_ok (k := 3) X (by decide +kernel), ?_⟩
  refine List.forall_mem_cons.mpr ⟨am_iload_n_ok (k := 2) X (by decide +kernel), ?_⟩
  refine List.forall_mem_cons.mpr ⟨am_callV_ok (C := R_Hu) (T := F_Hu) (N := 5) (idx := 65) X rfl (am_GV m_Hu_65 v_Hu_isBetter.1 v_Hu_isBetter.2.1 v_Hu_isBetter.2.2.1 v_Hu_isBetter.2.2.2) ⟨rfl, v_Hu_isBetterd⟩ ⟨by decide, by decide⟩ (Nat.zero_le _) (by decide +kernel), ?_⟩
  refine List.forall_mem_cons.mpr ⟨am_if_eq_ok (off := 5) X (by decide +kernel) (by decide), ?_⟩
  refine List.forall_mem_cons.mpr ⟨am_iload_n_ok (k := 3) X (by decide +kernel), ?_⟩
  refine List.forall_mem_cons.mpr ⟨am_istore_n_ok (k := 2) X (by decide) (by decide +kernel), ?_⟩
  refine List.forall_mem_cons.mpr ⟨am_iinc_ok X (by decide) (by decide +kernel), ?_⟩
  refine List.forall_mem_cons.mpr ⟨am_goto_ok (off := -51) X (by decide +kernel) (by decide), ?_⟩
  refine List.forall_mem_cons.mpr ⟨am_iload_n_ok (k := 2) X (by decide +kernel), ?_⟩
  refine List.forall_mem_cons.mpr ⟨am_ret_ok X hr (by decide +kernel), ?_⟩
  exact fun _ h => absurd h List.not_mem_nil
abbrev b_Hu_wrap : AT := [(0, am_ald 0 1), (1, am_ic 0 1), (2, am_put am_Y 1 3), (5, am_ald 0 1), (6, am_callV am_Y 1 9 0), (9, am_ist 1 1), (10, am_ild 1 1), (11, am_ist 2 1), (12, am_ic 0 1), (13, am_ist 3 1), (14, am_ild 3 1), (15, am_ic (60) 2), (17, am_icmp 3 64), (20, am_ild 2 1), (21, am_ic (-1) 1), (22, am_icmp 0 64), (25, am_ald 0 1), (26, am_get am_Y 1 2), (29, am_ald 0 1), (30, am_get am_Y 1 3), (33, am_ild 2 1), (34, am_iast am_Y), (35, am_ald 0 1), (36, am_dup), (37, am_get am_Y 1 3), (40, am_ic 1 1), (41, am_iadd), (42, am_put am_Y 1 3), (45, am_ald 0 1), (46, am_ild 2 1), (47, am_callV am_Y 1 14 1), (50, am_ist 2 1), (51, am_ild 2 1), (52, am_ild 1 1), (53, am_icmp 1 58), (56, am_ic (-1) 1), (57, am_ist 2 1), (58, am_inc 3 (1)), (61, am_goto 14), (64, am_vret)]
set_option maxRecDepth 100000 in
set_option maxHeartbeats 4000000 in
theorem T_Hu_wrap : am_T am_Y am_cl am_Gw am_mi 15 b_Hu_wrap := by
  intro E A p l e s m args below meth c Rt X hr
  refine List.forall_mem_cons.mpr ⟨am_aload_n_ok (k := 0) X (by decide +kernel), ?_⟩
  refine List.forall_mem_cons.mpr ⟨am_iconst_ok X (by decide +kernel), ?_⟩
  refine List.forall_mem_cons.mpr ⟨am_put_ok (C := R_Hu) (T := F_Hu) (N := 5) (idx := 19) X rfl (by decide) (fun w h => List.mem_cons_of_mem _ (u_Hu w h)) t_Hu_ok n_Hu rfl (by decide +kernel) (List.mem_cons_of_mem _ w_Hu_19) (by decide +kernel), ?_⟩
  refine List.forall_mem_cons.mpr ⟨am_aload_n_ok (k := 0) X (by decide +kernel), ?_⟩
  refine List.forall_mem_cons.mpr ⟨am_callV_ok (C := R_Hu) (T := F_Hu) (N := 5) (idx := 39) X rfl (am_GV m_Hu_39 v_Hu_lowest.1 v_Hu_lowest.2.1 v_Hu_lowest.2.2.1 v_Hu_lowest.2.2.2) ⟨rfl, v_Hu_lowestd⟩ ⟨by decide, by decide⟩ (Nat.zero_le _) (by decide +kernel), ?_⟩
  refine List.forall_mem_cons.mpr ⟨am_istore_n_ok (k := 1) X (by decide) (by decide +kernel), ?_⟩
  refine List.forall_mem_cons.mpr ⟨am_iload_n_ok (k := 1) X (by decide +kernel), ?_⟩
  refine List.forall_mem_cons.mpr ⟨am_istore_n_ok (k := 2) X (by decide) (by decide +kernel), ?_⟩
  refine List.forall_mem_cons.mpr ⟨am_iconst_ok X (by decide +kernel), ?_⟩
  refine List.forall_mem_cons.mpr ⟨am_istore_n_ok (k := 3) X (by decide) (by decide +kernel), ?_⟩
  refine List.forall_mem_cons.mpr ⟨am_iload_n_ok (k := 3) X (by decide +kernel), ?_⟩
  refine List.forall_mem_cons.mpr ⟨am_bipush_ok X (by decide +kernel) (by decide), ?_⟩
  refine List.forall_mem_cons.mpr ⟨am_icmp_ge_ok (off := 47) X (by decide +kernel) (by decide), ?_⟩
  refine List.forall_mem_cons.mpr ⟨am_iload_n_ok (k := 2) X (by decide +kernel), ?_⟩
  refine List.forall_mem_cons.mpr ⟨am_iconst_ok X (by decide +kernel), ?_⟩
  refine List.forall_mem_cons.mpr ⟨am_icmp_eq_ok (off := 42) X (by decide +kernel) (by decide), ?_⟩
  refine List.forall_mem_cons.mpr ⟨am_aload_n_ok (k := 0) X (by decide +kernel), ?_⟩
  refine List.forall_mem_cons.mpr ⟨am_get_ok (C := R_Hu) (T := F_Hu) (N := 5) (idx := 15) X rfl (by decide) (fun w h => List.mem_cons_of_mem _ (u_Hu w h)) (List.mem_cons_of_mem _ w_Hu_15) (by decide +kernel), ?_⟩
  refine List.forall_mem_cons.mpr ⟨am_aload_n_ok (k := 0) X (by decide +kernel), ?_⟩
  refine List.forall_mem_cons.mpr ⟨am_get_ok (C := R_Hu) (T := F_Hu) (N := 5) (idx := 19) X rfl (by decide) (fun w h => List.mem_cons_of_mem _ (u_Hu w h)) (List.mem_cons_of_mem _ w_Hu_19) (by decide +kernel), ?_⟩
  refine List.forall_mem_cons.mpr ⟨am_iload_n_ok (k := 2) X (by decide +kernel), ?_⟩
  refine List.forall_mem_cons.mpr ⟨am_iast_ok X am_Y0 (by decide +kernel), ?_⟩
  refine List.forall_mem_cons.mpr ⟨am_aload_n_ok (k := 0) X (by decide +kernel), ?_⟩
  refine List.forall_mem_cons.mpr ⟨am_dup_ok X (by decide +kernel), ?_⟩
  refine List.forall_mem_cons.mpr ⟨am_get_ok (C := R_Hu) (T := F_Hu) (N := 5) (idx := 19) X rfl (by decide) (fun w h => List.mem_cons_of_mem _ (u_Hu w h)) (List.mem_cons_of_mem _ w_Hu_19) (by decide +kernel), ?_⟩
  refine List.forall_mem_cons.mpr ⟨am_iconst_ok X (by decide +kernel), ?_⟩
  refine List.forall_mem_cons.mpr ⟨am_iadd_ok X (by decide +kernel), ?_⟩
  refine List.forall_mem_cons.mpr ⟨am_put_ok (C := R_Hu) (T := F_Hu) (N := 5) (idx := 19) X rfl (by decide) (fun w h => List.mem_cons_of_mem _ (u_Hu w h)) t_Hu_ok n_Hu rfl (by decide +kernel) (List.mem_cons_of_mem _ w_Hu_19) (by decide +kernel), ?_⟩
  refine List.forall_mem_cons.mpr ⟨am_aload_n_ok (k := 0) X (by decide +kernel), ?_⟩
  refine List.forall_mem_cons.mpr ⟨am_iload_n_ok (k := 2) X (by decide +kernel), ?_⟩
  refine List.forall_mem_cons.mpr ⟨am_callV_ok (C := R_Hu) (T := F_Hu) (N := 5) (idx := 43) X rfl (am_GV m_Hu_43 v_Hu_cornerBehind.1 v_Hu_cornerBehind.2.1 v_Hu_cornerBehind.2.2.1 v_Hu_cornerBehind.2.2.2) ⟨rfl, v_Hu_cornerBehindd⟩ ⟨by decide, by decide⟩ (Nat.zero_le _) (by decide +kernel), ?_⟩
  refine List.forall_mem_cons.mpr ⟨am_istore_n_ok (k := 2) X (by decide) (by decide +kernel), ?_⟩
  refine List.forall_mem_cons.mpr ⟨am_iload_n_ok (k := 2) X (by decide +kernel), ?_⟩
  refine List.forall_mem_cons.mpr ⟨am_iload_n_ok (k := 1) X (by decide +kernel), ?_⟩
  refine List.forall_mem_cons.mpr ⟨am_icmp_ne_ok (off := 5) X (by decide +kernel) (by decide), ?_⟩
  refine List.forall_mem_cons.mpr ⟨am_iconst_ok X (by decide +kernel), ?_⟩
  refine List.forall_mem_cons.mpr ⟨am_istore_n_ok (k := 2) X (by decide) (by decide +kernel), ?_⟩
  refine List.forall_mem_cons.mpr ⟨am_iinc_ok X (by decide) (by decide +kernel), ?_⟩
  refine List.forall_mem_cons.mpr ⟨am_goto_ok (off := -47) X (by decide +kernel) (by decide), ?_⟩
  refine List.forall_mem_cons.mpr ⟨am_vret_ok X hr (by decide +kernel), ?_⟩
  exact fun _ h => absurd h List.not_mem_nil
abbrev b_Hu_refresh : AT := [(0, am_ald 0 1), (1, am_get am_Y 1 4), (4, am_ald 0 1), (5, am_get am_Y 1 0), (8, am_get am_Y 4 3), (11, am_icmp 0 33), (14, am_ald 0 1), (15, am_callV am_Y 1 6 0), (18, am_ald 0 1), (19, am_callV am_Y 1 15 0), (22, am_ald 0 1), (23, am_ald 0 1), (24, am_get am_Y 1 0), (27, am_get am_Y 4 3), (30, am_put am_Y 1 4), (33, am_vret)]
set_option maxRecDepth 100000 in
set_option maxHeartbeats 4000000 in
theorem T_Hu_refresh : am_T am_Y am_cl am_Gw am_mi 16 b_Hu_refresh := by
  intro E A p l e s m args below meth c Rt X hr
  refine List.forall_mem_cons.mpr ⟨am_aload_n_ok (k := 0) X (by decide +kernel), ?_⟩
  refine List.forall_mem_cons.mpr ⟨am_get_ok (C := R_Hu) (T := F_Hu) (N := 5) (idx := 23) X rfl (by decide) (fun w h => List.mem_cons_of_mem _ (u_Hu w h)) (List.mem_cons_of_mem _ w_Hu_23) (by decide +kernel), ?_⟩
  refine List.forall_mem_cons.mpr ⟨am_aload_n_ok (k := 0) X (by decide +kernel), ?_⟩
  refine List.forall_mem_cons.mpr ⟨am_get_ok (C := R_Hu) (T := F_Hu) (N := 5) (idx := 26) X rfl (by decide) (fun w h => List.mem_cons_of_mem _ (u_Hu w h)) (List.mem_cons_of_mem _ w_Hu_26) (by decide +kernel), ?_⟩
  refine List.forall_mem_cons.mpr ⟨am_get_ok (C := R_Po) (T := F_Po) (N := 4) (idx := 30) X rfl (by decide) (fun w h => List.mem_cons_of_mem _ (u_Po w h)) (List.mem_cons_of_mem _ w_Hu_30) (by decide +kernel), ?_⟩
  refine List.forall_mem_cons.mpr ⟨am_icmp_eq_ok (off := 22) X (by decide +kernel) (by decide), ?_⟩
  refine List.forall_mem_cons.mpr ⟨am_aload_n_ok (k := 0) X (by decide +kernel), ?_⟩
  refine List.forall_mem_cons.mpr ⟨am_callV_ok (C := R_Hu) (T := F_Hu) (N := 5) (idx := 33) X rfl (am_GV m_Hu_33 v_Hu_takeAllIn.1 v_Hu_takeAllIn.2.1 v_Hu_takeAllIn.2.2.1 v_Hu_takeAllIn.2.2.2) ⟨rfl, v_Hu_takeAllInd⟩ ⟨by decide, by decide⟩ (Nat.zero_le _) (by decide +kernel), ?_⟩
  refine List.forall_mem_cons.mpr ⟨am_aload_n_ok (k := 0) X (by decide +kernel), ?_⟩
  refine List.forall_mem_cons.mpr ⟨am_callV_ok (C := R_Hu) (T := F_Hu) (N := 5) (idx := 36) X rfl (am_GV m_Hu_36 v_Hu_wrap.1 v_Hu_wrap.2.1 v_Hu_wrap.2.2.1 v_Hu_wrap.2.2.2) ⟨rfl, v_Hu_wrapd⟩ ⟨by decide, by decide⟩ (Nat.zero_le _) (by decide +kernel), ?_⟩
  refine List.forall_mem_cons.mpr ⟨am_aload_n_ok (k := 0) X (by decide +kernel), ?_⟩
  refine List.forall_mem_cons.mpr ⟨am_aload_n_ok (k := 0) X (by decide +kernel), ?_⟩
  refine List.forall_mem_cons.mpr ⟨am_get_ok (C := R_Hu) (T := F_Hu) (N := 5) (idx := 26) X rfl (by decide) (fun w h => List.mem_cons_of_mem _ (u_Hu w h)) (List.mem_cons_of_mem _ w_Hu_26) (by decide +kernel), ?_⟩
  refine List.forall_mem_cons.mpr ⟨am_get_ok (C := R_Po) (T := F_Po) (N := 4) (idx := 30) X rfl (by decide) (fun w h => List.mem_cons_of_mem _ (u_Po w h)) (List.mem_cons_of_mem _ w_Hu_30) (by decide +kernel), ?_⟩
  refine List.forall_mem_cons.mpr ⟨am_put_ok (C := R_Hu) (T := F_Hu) (N := 5) (idx := 23) X rfl (by decide) (fun w h => List.mem_cons_of_mem _ (u_Hu w h)) t_Hu_ok n_Hu rfl (by decide +kernel) (List.mem_cons_of_mem _ w_Hu_23) (by decide +kernel), ?_⟩
  refine List.forall_mem_cons.mpr ⟨am_vret_ok X hr (by decide +kernel), ?_⟩
  exact fun _ h => absurd h List.not_mem_nil
abbrev b_Po_dotProduct : AT := [(0, am_ald 0 1), (1, am_get am_Y 4 0), (4, am_ild 2 1), (5, am_iald am_Y), (6, am_ald 0 1), (7, am_get am_Y 4 0), (10, am_ild 1 1), (11, am_iald am_Y), (12, am_isub), (13, am_i2l), (14, am_lst 4 2), (16, am_ald 0 1), (17, am_get am_Y 4 1), (20, am_ild 2 1), (21, am_iald am_Y), (22, am_ald 0 1), (23, am_get am_Y 4 1), (26, am_ild 1 1), (27, am_iald am_Y), (28, am_isub), (29, am_i2l), (30, am_lst 6 2), (32, am_lld 4 2), (34, am_ald 0 1), (35, am_get am_Y 4 0), (38, am_ild 3 1), (39, am_iald am_Y), (40, am_ald 0 1), (41, am_get am_Y 4 0), (44, am_ild 1 1), (45, am_iald am_Y), (46, am_isub), (47, am_i2l), (48, am_lmul), (49, am_lld 6 2), (51, am_ald 0 1), (52, am_get am_Y 4 1), (55, am_ild 3 1), (56, am_iald am_Y), (57, am_ald 0 1), (58, am_get am_Y 4 1), (61, am_ild 1 1), (62, am_iald am_Y), (63, am_isub), (64, am_i2l), (65, am_lmul), (66, am_ladd), (67, am_lret)]
set_option maxRecDepth 100000 in
set_option maxHeartbeats 4000000 in
theorem T_Po_dotProduct : am_T am_Y am_cl am_Gw am_mi 17 b_Po_dotProduct := by
  intro E A p l e s m args below meth c Rt X hr
  refine List.forall_mem_cons.mpr ⟨am_aload_n_ok (k := 0) X (by decide +kernel), ?_⟩
  refine List.forall_mem_cons.mpr ⟨am_get_ok (C := R_Po) (T := F_Po) (N := 4) (idx := 9) X rfl (by decide) (fun w h => List.mem_cons_of_mem _ (u_Po w h)) (List.mem_cons_of_mem _ w_Po_9) (by decide +kernel), ?_⟩
  refine List.forall_mem_cons.mpr ⟨am_iload_n_ok (k := 2) X (by decide +kernel), ?_⟩
  refine List.forall_mem_cons.mpr ⟨am_iald_ok X am_Y0 (by decide +kernel), ?_⟩
  refine List.forall_mem_cons.mpr ⟨am_aload_n_ok (k := 0) X (by decide +kernel), ?_⟩
  refine List.forall_mem_cons.mpr ⟨am_get_ok (C := R_Po) (T := F_Po) (N := 4) (idx := 9) X rfl (by decide) (fun w h => List.mem_cons_of_mem _ (u_Po w h)) (List.mem_cons_of_mem _ w_Po_9) (by decide +kernel), ?_⟩
  refine List.forall_mem_cons.mpr ⟨am_iload_n_ok (k := 1) X (by decide +kernel), ?_⟩
  refine List.forall_mem_cons.mpr ⟨am_iald_ok X am_Y0 (by decide +kernel), ?_⟩
  refine List.forall_mem_cons.mpr ⟨am_isub_ok X (by decide +kernel), ?_⟩
  refine List.forall_mem_cons.mpr ⟨am_i2l_ok X (by decide +kernel), ?_⟩
  refine List.forall_mem_cons.mpr ⟨am_lstore_ok X (by decide) (by decide +kernel), ?_⟩
  refine List.forall_mem_cons.mpr ⟨am_aload_n_ok (k := 0) X (by decide +kernel), ?_⟩
  refine List.forall_mem_cons.mpr ⟨am_get_ok (C := R_Po) (T := F_Po) (N := 4) (idx := 15) X rfl (by decide) (fun w h => List.mem_cons_of_mem _ (u_Po w h)) (List.mem_cons_of_mem _ w_Po_15) (by decide +kernel), ?_⟩
  refine List.forall_mem_cons.mpr ⟨am_iload_n_ok (k := 2) X (by decide +kernel), ?_⟩
  refine List.forall_mem_cons.mpr ⟨am_iald_ok X am_Y0 (by decide +kernel), ?_⟩
  refine List.forall_mem_cons.mpr ⟨am_aload_n_ok (k := 0) X (by decide +kernel), ?_⟩
  refine List.forall_mem_cons.mpr ⟨am_get_ok (C := R_Po) (T := F_Po) (N := 4) (idx := 15) X rfl (by decide) (fun w h => List.mem_cons_of_mem _ (u_Po w h)) (List.mem_cons_of_mem _ w_Po_15) (by decide +kernel), ?_⟩
  refine List.forall_mem_cons.mpr ⟨am_iload_n_ok (k := 1) X (by decide +kernel), ?_⟩
  refine List.forall_mem_cons.mpr ⟨am_iald_ok X am_Y0 (by decide +kernel), ?_⟩
  refine List.forall_mem_cons.mpr ⟨am_isub_ok X (by decide +kernel), ?_⟩
  refine List.forall_mem_cons.mpr ⟨am_i2l_ok X (by decide +kernel), ?_⟩
  refine List.forall_mem_cons.mpr ⟨am_lstore_ok X (by decide) (by decide +kernel), ?_⟩
  refine List.forall_mem_cons.mpr ⟨am_lload_ok X (by decide +kernel), ?_⟩
  refine List.forall_mem_cons.mpr ⟨am_aload_n_ok (k := 0) X (by decide +kernel), ?_⟩
  refine List.forall_mem_cons.mpr ⟨am_get_ok (C := R_Po) (T := F_Po) (N := 4) (idx := 9) X rfl (by decide) (fun w h => List.mem_cons_of_mem _ (u_Po w h)) (List.mem_cons_of_mem _ w_Po_9) (by decide +kernel), ?_⟩
  refine List.forall_mem_cons.mpr ⟨am_iload_n_ok (k := 3) X (by decide +kernel), ?_⟩
  refine List.forall_mem_cons.mpr ⟨am_iald_ok X am_Y0 (by decide +kernel), ?_⟩
  refine List.forall_mem_cons.mpr ⟨am_aload_n_ok (k := 0) X (by decide +kernel), ?_⟩
  refine List.forall_mem_cons.mpr ⟨am_get_ok (C := R_Po) (T := F_Po) (N := 4) (idx := 9) X rfl (by decide) (fun w h => List.mem_cons_of_mem _ (u_Po w h)) (List.mem_cons_of_mem _ w_Po_9) (by decide +kernel), ?_⟩
  refine List.forall_mem_cons.mpr ⟨am_iload_n_ok (k := 1) X (by decide +kernel), ?_⟩
  refine List.forall_mem_cons.mpr ⟨am_iald_ok X am_Y0 (by decide +kernel), ?_⟩
  refine List.forall_mem_cons.mpr ⟨am_isub_ok X (by decide +kernel), ?_⟩
  refine List.forall_mem_cons.mpr ⟨am_i2l_ok X (by decide +kernel), ?_⟩
  refine List.forall_mem_cons.mpr ⟨am_lmul_ok X (by decide +kernel), ?_⟩
  refine List.forall_mem_cons.mpr ⟨am_lload_ok X (by decide +kernel), ?_⟩
  refine List.forall_mem_cons.mpr ⟨am_aload_n_ok (k := 0) X (by decide +kernel), ?_⟩
  refine List.forall_mem_cons.mpr ⟨am_get_ok (C := R_Po) (T := F_Po) (N := 4) (idx := 15) X rfl (by decide) (fun w h => List.mem_cons_of_mem _ (u_Po w h)) (List.mem_cons_of_mem _ w_Po_15) (by decide +kernel), ?_⟩
  refine List.forall_mem_cons.mpr ⟨am_iload_n_ok (k := 3) X (by decide +kernel), ?_⟩
  refine List.forall_mem_cons.mpr ⟨am_iald_ok X am_Y0 (by decide +kernel), ?_⟩
  refine List.forall_mem_cons.mpr ⟨am_aload_n_ok (k := 0) X (by decide +kernel), ?_⟩
  refine List.forall_mem_cons.mpr ⟨am_get_ok (C := R_Po) (T := F_Po) (N := 4) (idx := 15) X rfl (by decide) (fun w h => List.mem_cons_of_mem _ (u_Po w h)) (List.mem_cons_of_mem _ w_Po_15) (by decide +kernel), ?_⟩
  refine List.forall_mem_cons.mpr ⟨am_iload_n_ok (k := 1) X (by decide +kernel), ?_⟩
  refine List.forall_mem_cons.mpr ⟨am_iald_ok X am_Y0 (by decide +kernel), ?_⟩
  refine List.forall_mem_cons.mpr ⟨am_isub_ok X (by decide +kernel), ?_⟩
  refine List.forall_mem_cons.mpr ⟨am_i2l_ok X (by decide +kernel), ?_⟩
  refine List.forall_mem_cons.mpr ⟨am_lmul_ok X (by decide +kernel), ?_⟩
  refine List.forall_mem_cons.mpr ⟨am_ladd_ok X (by decide +kernel), ?_⟩
  refine List.forall_mem_cons.mpr ⟨am_lret_ok X hr (by decide +kernel), ?_⟩
  exact fun _ h => absurd h List.not_mem_nil
abbrev b_Po_isOnSegment : AT := [(0, am_ald 0 1), (1, am_ild 1 1), (2, am_ild 2 1), (3, am_ild 3 1), (4, am_callV am_Y 4 11 3), (7, am_lc 0 1), (8, am_lcmp 1 28), (12, am_ald 0 1), (13, am_ild 3 1), (14, am_ild 1 1), (15, am_ild 2 1), (16, am_callV am_Y 4 17 3), (19, am_lc 0 1), (20, am_lcmp 4 28), (24, am_ic 1 1), (25, am_goto 29), (28, am_ic 0 1), (29, am_zret)]
set_option maxRecDepth 100000 in
set_option maxHeartbeats 4000000 in
theorem T_Po_isOnSegment : am_T am_Y am_cl am_Gw am_mi 18 b_Po_isOnSegment := by
  intro E A p l e s m args below meth c Rt X hr
  refine List.forall_mem_cons.mpr ⟨am_aload_n_ok (k := 0) X (by decide +kernel), ?_⟩
  refine List.forall_mem_cons.mpr ⟨am_iload_n_ok (k := 1) X (by decide +kernel), ?_⟩
  refine List.forall_mem_cons.mpr ⟨am_iload_n_ok (k := 2) X (by decide +kernel), ?_⟩
  refine List.forall_mem_cons.mpr ⟨am_iload_n_ok (k := 3) X (by decide +kernel), ?_⟩
  refine List.forall_mem_cons.mpr ⟨am_callV_ok (C := R_Po) (T := F_Po) (N := 4) (idx := 25) X rfl (am_GV m_Po_25 v_Po_crossProduct.1 v_Po_crossProduct.2.1 v_Po_crossProduct.2.2.1 v_Po_crossProduct.2.2.2) ⟨rfl, v_Po_crossProductd⟩ ⟨by decide, by decide⟩ (Nat.zero_le _) (by decide +kernel), ?_⟩
  refine List.forall_mem_cons.mpr ⟨am_lconst_ok (n := 0) X (by decide +kernel), ?_⟩
  refine List.forall_mem_cons.mpr ⟨am_lcmp_ne_ok (off := 19) X (by decide +kernel) (by decide +kernel) (by decide), ?_⟩
  refine List.forall_mem_cons.mpr ⟨am_aload_n_ok (k := 0) X (by decide +kernel), ?_⟩
  refine List.forall_mem_cons.mpr ⟨am_iload_n_ok (k := 3) X (by decide +kernel), ?_⟩
  refine List.forall_mem_cons.mpr ⟨am_iload_n_ok (k := 1) X (by decide +kernel), ?_⟩
  refine List.forall_mem_cons.mpr ⟨am_iload_n_ok (k := 2) X (by decide +kernel), ?_⟩
  refine List.forall_mem_cons.mpr ⟨am_callV_ok (C := R_Po) (T := F_Po) (N := 4) (idx := 29) X rfl (am_GV m_Po_29 v_Po_dotProduct.1 v_Po_dotProduct.2.1 v_Po_dotProduct.2.2.1 v_Po_dotProduct.2.2.2) ⟨rfl, v_Po_dotProductd⟩ ⟨by decide, by decide⟩ (Nat.zero_le _) (by decide +kernel), ?_⟩
  refine List.forall_mem_cons.mpr ⟨am_lconst_ok (n := 0) X (by decide +kernel), ?_⟩
  refine List.forall_mem_cons.mpr ⟨am_lcmp_gt_ok (off := 7) X (by decide +kernel) (by decide +kernel) (by decide), ?_⟩
  refine List.forall_mem_cons.mpr ⟨am_iconst_ok X (by decide +kernel), ?_⟩
  refine List.forall_mem_cons.mpr ⟨am_goto_ok (off := 4) X (by decide +kernel) (by decide), ?_⟩
  refine List.forall_mem_cons.mpr ⟨am_iconst_ok X (by decide +kernel), ?_⟩
  refine List.forall_mem_cons.mpr ⟨am_zret_ok X hr (by decide +kernel), ?_⟩
  exact fun _ h => absurd h List.not_mem_nil
abbrev b_Hu_cornerAfter : AT := [(0, am_ald 0 1), (1, am_get am_Y 1 2), (4, am_ild 1 1), (5, am_ic 1 1), (6, am_iadd), (7, am_ald 0 1), (8, am_get am_Y 1 3), (11, am_icmp 3 20), (14, am_ild 1 1), (15, am_ic 1 1), (16, am_iadd), (17, am_goto 21), (20, am_ic 0 1), (21, am_iald am_Y), (22, am_ret)]
set_option maxRecDepth 100000 in
set_option maxHeartbeats 4000000 in
theorem T_Hu_cornerAfter : am_T am_Y am_cl am_Gw am_mi 19 b_Hu_cornerAfter := by
  intro E A p l e s m args below meth c Rt X hr
  refine List.forall_mem_cons.mpr ⟨am_aload_n_ok (k := 0) X (by decide +kernel), ?_⟩
  refine List.forall_mem_cons.mpr ⟨am_get_ok (C := R_Hu) (T := F_Hu) (N := 5) (idx := 15) X rfl (by decide) (fun w h => List.mem_cons_of_mem _ (u_Hu w h)) (List.mem_cons_of_mem _ w_Hu_15) (by decide +kernel), ?_⟩
  refine List.forall_mem_cons.mpr ⟨am_iload_n_ok (k := 1) X (by decide +kernel), ?_⟩
  refine List.forall_mem_cons.mpr ⟨am_iconst_ok X (by decide +kernel), ?_⟩
  refine List.forall_mem_cons.mpr ⟨am_iadd_ok X (by decide +kernel), ?_⟩
  refine List.forall_mem_cons.mpr ⟨am_aload_n_ok (k := 0) X (by decide +kernel), ?_⟩
  refine List.forall_mem_cons.mpr ⟨am_get_ok (C := R_Hu) (T := F_Hu) (N := 5) (idx := 19) X rfl (by decide) (fun w h => List.mem_cons_of_mem _ (u_Hu w h)) (List.mem_cons_of_mem _ w_Hu_19) (by decide +kernel), ?_⟩
  refine List.forall_mem_cons.mpr ⟨am_icmp_ge_ok (off := 9) X (by decide +kernel) (by decide), ?_⟩
  refine List.forall_mem_cons.mpr ⟨am_iload_n_ok (k := 1) X (by decide +kernel), ?_⟩
  refine List.forall_mem_cons.mpr ⟨am_iconst_ok X (by decide +kernel), ?_⟩
  refine List.forall_mem_cons.mpr ⟨am_iadd_ok X (by decide +kernel), ?_⟩
  refine List.forall_mem_cons.mpr ⟨am_goto_ok (off := 4) X (by decide +kernel) (by decide), ?_⟩
  refine List.forall_mem_cons.mpr ⟨am_iconst_ok X (by decide +kernel), ?_⟩
  refine List.forall_mem_cons.mpr ⟨am_iald_ok X am_Y0 (by decide +kernel), ?_⟩
  refine List.forall_mem_cons.mpr ⟨am_ret_ok X hr (by decide +kernel), ?_⟩
  exact fun _ h => absurd h List.not_mem_nil
abbrev b_Hu_holds : AT := [(0, am_ald 0 1), (1, am_get am_Y 1 3), (4, am_if 1 9), (7, am_ic (-1) 1), (8, am_ret), (9, am_ald 0 1), (10, am_get am_Y 1 3), (13, am_ic 3 1), (14, am_icmp 3 51), (17, am_ald 0 1), (18, am_get am_Y 1 0), (21, am_ald 0 1), (22, am_get am_Y 1 2), (25, am_ic 0 1), (26, am_iald am_Y), (27, am_ald 0 1), (28, am_get am_Y 1 2), (31, am_ald 0 1), (32, am_get am_Y 1 3), (35, am_ic 1 1), (36, am_isub), (37, am_iald am_Y), (38, am_ild 1 1), (39, am_callV am_Y 4 18 3), (42, am_if 0 49), (45, am_ic 0 1), (46, am_goto 50), (49, am_ic (-1) 1), (50, am_ret), (51, am_ic 1 1), (52, am_ist 2 1), (53, am_ic 0 1), (54, am_ist 3 1), (55, am_ild 3 1), (56, am_ald 0 1), (57, am_get am_Y 1 3), (60, am_icmp 3 108), (63, am_ald 0 1), (64, am_get am_Y 1 0), (67, am_ald 0 1), (68, am_get am_Y 1 2), (71, am_ild 3 1), (72, am_iald am_Y), (73, am_ald 0 1), (74, am_ild 3 1), (75, am_callV am_Y 1 19 1), (78, am_ild 1 1), (79, am_callV am_Y 4 11 3), (82, am_lst 4 2), (84, am_lld 4 2), (86, am_lc 0 1), (87, am_lcmp 3 93), (91, am_ic (-1) 1), (92, am_ret), (93, am_lld 4 2), (95, am_lc 0 1), (96, am_lcmp 1 102), (100, am_ic 0 1), (101, am_ist 2 1), (102, am_inc 3 (1)), (105, am_goto 55), (108, am_ild 2 1), (109, am_ret)]
set_option maxRecDepth 100000 in
set_option maxHeartbeats 4000000 in
theorem T_Hu_holds : am_T am_Y am_cl am_Gw am_mi 20 b_Hu_holds := by
  intro E A p l e s m args below meth c Rt X hr
  refine List.forall_mem_cons.mpr ⟨am_aload_n_ok (k := 0) X (by decide +kernel), ?_⟩
  refine List.forall_mem_cons.mpr ⟨am_get_ok (C := R_Hu) (T := F_Hu) (N := 5) (idx := 19) X rfl (by decide) (fun w h => List.mem_cons_of_mem _ (u_Hu w h)) (List.mem_cons_of_mem _ w_Hu_19) (by decide +kernel), ?_⟩
  refine List.forall_mem_cons.mpr ⟨am_if_ne_ok (off := 5) X (by decide +kernel) (by decide), ?_⟩
  refine List.forall_mem_cons.mpr ⟨am_iconst_ok X (by decide +kernel), ?_⟩
  refine List.forall_mem_cons.mpr ⟨am_ret_ok X hr (by decide +kernel), ?_⟩
  refine List.forall_mem_cons.mpr ⟨am_aload_n_ok (k := 0) X (by decide +kernel), ?_⟩
  refine List.forall_mem_cons.mpr ⟨am_get_ok (C := R_Hu) (T := F_Hu) (N := 5) (idx := 19) X rfl (by decide) (fun w h => List.mem_cons_of_mem _ (u_Hu w h)) (List.mem_cons_of_mem _ w_Hu_19) (by decide +kernel), ?_⟩
  refine List.forall_mem_cons.mpr ⟨am_iconst_ok X (by decide +kernel), ?_⟩
  refine List.forall_mem_cons.mpr ⟨am_icmp_ge_ok (off := 37) X (by decide +kernel) (by decide), ?_⟩
  refine List.forall_mem_cons.mpr ⟨am_aload_n_ok (k := 0) X (by decide +kernel), ?_⟩
  refine List.forall_mem_cons.mpr ⟨am_get_ok (C := R_Hu) (T := F_Hu) (N := 5) (idx := 26) X rfl (by decide) (fun w h => List.mem_cons_of_mem _ (u_Hu w h)) (List.mem_cons_of_mem _ w_Hu_26) (by decide +kernel), ?_⟩
  refine List.forall_mem_cons.mpr ⟨am_aload_n_ok (k := 0) X (by decide +kernel), ?_⟩
  refine List.forall_mem_cons.mpr ⟨am_get_ok (C := R_Hu) (T := F_Hu) (N := 5) (idx := 15) X rfl (by decide) (fun w h => List.mem_cons_of_mem _ (u_Hu w h)) (List.mem_cons_of_mem _ w_Hu_15) (by decide +kernel), ?_⟩
  refine List.forall_mem_cons.mpr ⟨am_iconst_ok X (by decide +kernel), ?_⟩
  refine List.forall_mem_cons.mpr ⟨am_iald_ok X am_Y0 (by decide +kernel), ?_⟩
  refine List.forall_mem_cons.mpr ⟨am_aload_n_ok (k := 0) X (by decide +kernel), ?_⟩
  refine List.forall_mem_cons.mpr ⟨am_get_ok (C := R_Hu) (T := F_Hu) (N := 5) (idx := 15) X rfl (by decide) (fun w h => List.mem_cons_of_mem _ (u_Hu w h)) (List.mem_cons_of_mem _ w_Hu_15) (by decide +kernel), ?_⟩
  refine List.forall_mem_cons.mpr ⟨am_aload_n_ok (k := 0) X (by decide +kernel), ?_⟩
  refine List.forall_mem_cons.mpr ⟨am_get_ok (C := R_Hu) (T := F_Hu) (N := 5) (idx := 19) X rfl (by decide) (fun w h => List.mem_cons_of_mem _ (u_Hu w h)) (List.mem_cons_of_mem _ w_Hu_19) (by decide +kernel), ?_⟩
  refine List.forall_mem_cons.mpr ⟨am_iconst_ok X (by decide +kernel), ?_⟩
  refine List.forall_mem_cons.mpr ⟨am_isub_ok X (by decide +kernel), ?_⟩
  refine List.forall_mem_cons.mpr ⟨am_iald_ok X am_Y0 (by decide +kernel), ?_⟩
  refine List.forall_mem_cons.mpr ⟨am_iload_n_ok (k := 1) X (by decide +kernel), ?_⟩
  refine List.forall_mem_cons.mpr ⟨am_callV_ok (C := R_Po) (T := F_Po) (N := 4) (idx := 77) X rfl (am_GV m_Hu_77 v_Po_isOnSegment.1 v_Po_isOnSegment.2.1 v_Po_isOnSegment.2.2.1 v_Po_isOnSegment.2.2.2) ⟨rfl, v_Po_isOnSegmentd⟩ ⟨by decide, by decide⟩ (Nat.zero_le _) (by decide +kernel), ?_⟩
  refine List.forall_mem_cons.mpr ⟨am_if_eq_ok (off := 7) X (by decide +kernel) (by decide), ?_⟩
  refine List.forall_mem_cons.mpr ⟨am_iconst_ok X (by decide +kernel), ?_⟩
  refine List.forall_mem_cons.mpr ⟨am_goto_ok (off := 4) X (by decide +kernel) (by decide), ?_⟩
  refine List.forall_mem_cons.mpr ⟨am_iconst_ok X (by decide +kernel), ?_⟩
  refine List.forall_mem_cons.mpr ⟨am_ret_ok X hr (by decide +kernel), ?_⟩
  refine List.forall_mem_cons.mpr ⟨am_iconst_ok X (by decide +kernel), ?_⟩
  refine List.forall_mem_cons.mpr ⟨am_istore_n_ok (k := 2) X (by decide) (by decide +kernel), ?_⟩
  refine List.forall_mem_cons.mpr ⟨am_iconst_ok X (by decide +kernel), ?_⟩
  refine List.forall_mem_cons.mpr ⟨am_istore_n_ok (k := 3) X (by decide) (by decide +kernel), ?_⟩
  refine List.forall_mem_cons.mpr ⟨am_iload_n_ok (k := 3) X (by decide +kernel), ?_⟩
  refine List.forall_mem_cons.mpr ⟨am_aload_n_ok (k := 0) X (by decide +kernel), ?_⟩
  refine List.forall_mem_cons.mpr ⟨am_get_ok (C := R_Hu) (T := F_Hu) (N := 5) (idx := 19) X rfl (by decide) (fun w h => List.mem_cons_of_mem _ (u_Hu w h)) (List.mem_cons_of_mem _ w_Hu_19) (by decide +kernel), ?_⟩
  refine List.forall_mem_cons.mpr ⟨am_icmp_ge_ok (off := 48) X (by decide +kernel) (by decide), ?_⟩
  refine List.forall_mem_cons.mpr ⟨am_aload_n_ok (k := 0) X (by decide +kernel), ?_⟩
  refine List.forall_mem_cons.mpr ⟨am_get_ok (C := R_Hu) (T := F_Hu) (N := 5) (idx := 26) X rfl (by decide) (fun w h => List.mem_cons_of_mem _ (u_Hu w h)) (List.mem_cons_of_mem _ w_Hu_26) (by decide +kernel), ?_⟩
  refine List.forall_mem_cons.mpr ⟨am_aload_n_ok (k := 0) X (by decide +kernel), ?_⟩
  refine List.forall_mem_cons.mpr ⟨am_get_ok (C := R_Hu) (T := F_Hu) (N := 5) (idx := 15) X rfl (by decide) (fun w h => List.mem_cons_of_mem _ (u_Hu w h)) (List.mem_cons_of_mem _ w_Hu_15) (by decide +kernel), ?_⟩
  refine List.forall_mem_cons.mpr ⟨am_iload_n_ok (k := 3) X (by decide +kernel), ?_⟩
  refine List.forall_mem_cons.mpr ⟨am_iald_ok X am_Y0 (by decide +kernel), ?_⟩
  refine List.forall_mem_cons.mpr ⟨am_aload_n_ok (k := 0) X (by decide +kernel), ?_⟩
  refine List.forall_mem_cons.mpr ⟨am_iload_n_ok (k := 3) X (by decide +kernel), ?_⟩
  refine List.forall_mem_cons.mpr ⟨am_callV_ok (C := R_Hu) (T := F_Hu) (N := 5) (idx := 80) X rfl (am_GV m_Hu_80 v_Hu_cornerAfter.1 v_Hu_cornerAfter.2.1 v_Hu_cornerAfter.2.2.1 v_Hu_cornerAfter.2.2.2) ⟨rfl, v_Hu_cornerAfterd⟩ ⟨by decide, by decide⟩ (Nat.zero_le _) (by decide +kernel), ?_⟩
  refine List.forall_mem_cons.mpr ⟨am_iload_n_ok (k := 1) X (by decide +kernel), ?_⟩
  refine List.forall_mem_cons.mpr ⟨am_callV_ok (C := R_Po) (T := F_Po) (N := 4) (idx := 69) X rfl (am_GV m_Hu_69 v_Po_crossProduct.1 v_Po_crossProduct.2.1 v_Po_crossProduct.2.2.1 v_Po_crossProduct.2.2.2) ⟨rfl, v_Po_crossProductd⟩ ⟨by decide, by decide⟩ (Nat.zero_le _) (by decide +kernel), ?_⟩
  refine List.forall_mem_cons.mpr ⟨am_lstore_ok X (by decide) (by decide +kernel), ?_⟩
  refine List.forall_mem_cons.mpr ⟨am_lload_ok X (by decide +kernel), ?_⟩
  refine List.forall_mem_cons.mpr ⟨am_lconst_ok (n := 0) X (by decide +kernel), ?_⟩
  refine List.forall_mem_cons.mpr ⟨am_lcmp_ge_ok (off := 5) X (by decide +kernel) (by decide +kernel) (by decide), ?_⟩
  refine List.forall_mem_cons.mpr ⟨am_iconst_ok X (by decide +kernel), ?_⟩
  refine List.forall_mem_cons.mpr ⟨am_ret_ok X hr (by decide +kernel), ?_⟩
  refine List.forall_mem_cons.mpr ⟨am_lload_ok X (by decide +kernel), ?_⟩
  refine List.forall_mem_cons.mpr ⟨am_lconst_ok (n := 0) X (by decide +kernel), ?_⟩
  refine List.forall_mem_cons.mpr ⟨am_lcmp_ne_ok (off := 5) X (by decide +kernel) (by decide +kernel) (by decide), ?_⟩
  refine List.forall_mem_cons.mpr ⟨am_iconst_ok X (by decide +kernel), ?_⟩
  refine List.forall_mem_cons.mpr ⟨am_istore_n_ok (k := 2) X (by decide) (by decide +kernel), ?_⟩
  refine List.forall_mem_cons.mpr ⟨am_iinc_ok X (by decide) (by decide +kernel), ?_⟩
  refine List.forall_mem_cons.mpr ⟨am_goto_ok (off := -50) X (by decide +kernel) (by decide), ?_⟩
  refine List.forall_mem_cons.mpr ⟨am_iload_n_ok (k := 2) X (by decide +kernel), ?_⟩
  refine List.forall_mem_cons.mpr ⟨am_ret_ok X hr (by decide +kernel), ?_⟩
  exact fun _ h => absurd h List.not_mem_nil
abbrev b_Hu_leaveOut : AT := [(0, am_ald 0 1), (1, am_get am_Y 1 1), (4, am_ild 1 1), (5, am_ic 1 1), (6, am_zast am_Y), (7, am_vret)]
set_option maxRecDepth 100000 in
set_option maxHeartbeats 4000000 in
theorem T_Hu_leaveOut : am_T am_Y am_cl am_Gw am_mi 21 b_Hu_leaveOut := by
  intro E A p l e s m args below meth c Rt X hr
  refine List.forall_mem_cons.mpr ⟨am_aload_n_ok (k := 0) X (by decide +kernel), ?_⟩
  refine List.forall_mem_cons.mpr ⟨am_get_ok (C := R_Hu) (T := F_Hu) (N := 5) (idx := 9) X rfl (by decide) (fun w h => List.mem_cons_of_mem _ (u_Hu w h)) (List.mem_cons_of_mem _ w_Hu_9) (by decide +kernel), ?_⟩
  refine List.forall_mem_cons.mpr ⟨am_iload_n_ok (k := 1) X (by decide +kernel), ?_⟩
  refine List.forall_mem_cons.mpr ⟨am_iconst_ok X (by decide +kernel), ?_⟩
  refine List.forall_mem_cons.mpr ⟨am_zast_ok X am_Y0 (by decide +kernel), ?_⟩
  refine List.forall_mem_cons.mpr ⟨am_vret_ok X hr (by decide +kernel), ?_⟩
  exact fun _ h => absurd h List.not_mem_nil
abbrev b_La_takeOffBorder : AT := [(0, am_ic 0 1), (1, am_ist 1 1), (2, am_ald 0 1), (3, am_get am_Y 3 1), (6, am_callV am_Y 1 15 0), (9, am_ic 0 1), (10, am_ist 2 1), (11, am_ild 2 1), (12, am_ald 0 1), (13, am_get am_Y 3 0), (16, am_get am_Y 4 2), (19, am_icmp 3 71), (22, am_ald 0 1), (23, am_get am_Y 3 1), (26, am_ild 2 1), (27, am_callV am_Y 1 7 1), (30, am_if 0 65), (33, am_ald 0 1), (34, am_get am_Y 3 1), (37, am_ild 2 1), (38, am_callV am_Y 1 20 1), (41, am_if 1 65), (44, am_ald 0 1), (45, am_get am_Y 3 2), (48, am_ild 2 1), (49, am_ald 0 1), (50, am_get am_Y 3 3), (53, am_iast am_Y), (54, am_ald 0 1), (55, am_get am_Y 3 1), (58, am_ild 2 1), (59, am_callV am_Y 1 21 1), (62, am_inc 1 (1)), (65, am_inc 2 (1)), (68, am_goto 11), (71, am_ild 1 1), (72, am_ret)]
set_option maxRecDepth 100000 in
set_option maxHeartbeats 4000000 in
theorem T_La_takeOffBorder : am_T am_Y am_cl am_Gw am_mi 22 b_La_takeOffBorder := by
  intro E A p l e s m args below meth c Rt X hr
  refine List.forall_mem_cons.mpr ⟨am_iconst_ok X (by decide +kernel), ?_⟩
  refine List.forall_mem_cons.mpr ⟨am_istore_n_ok (k := 1) X (by decide) (by decide +kernel), ?_⟩
  refine List.forall_mem_cons.mpr ⟨am_aload_n_ok (k := 0) X (by decide +kernel), ?_⟩
  refine List.forall_mem_cons.mpr ⟨am_get_ok (C := R_La) (T := F_La) (N := 5) (idx := 31) X rfl (by decide) (fun w h => List.mem_cons_of_mem _ (u_La w h)) (List.mem_cons_of_mem _ w_La_31) (by decide +kernel), ?_⟩
  refine List.forall_mem_cons.mpr ⟨am_callV_ok (C := R_Hu) (T := F_Hu) (N := 5) (idx := 46) X rfl (am_GV m_La_46 v_Hu_wrap.1 v_Hu_wrap.2.1 v_Hu_wrap.2.2.1 v_Hu_wrap.2.2.2) ⟨rfl, v_Hu_wrapd⟩ ⟨by decide, by decide⟩ (Nat.zero_le _) (by decide +kernel), ?_⟩
  refine List.forall_mem_cons.mpr ⟨am_iconst_ok X (by decide +kernel), ?_⟩
  refine List.forall_mem_cons.mpr ⟨am_istore_n_ok (k := 2) X (by decide) (by decide +kernel), ?_⟩
  refine List.forall_mem_cons.mpr ⟨am_iload_n_ok (k := 2) X (by decide +kernel), ?_⟩
  refine List.forall_mem_cons.mpr ⟨am_aload_n_ok (k := 0) X (by decide +kernel), ?_⟩
  refine List.forall_mem_cons.mpr ⟨am_get_ok (C := R_La) (T := F_La) (N := 5) (idx := 22) X rfl (by decide) (fun w h => List.mem_cons_of_mem _ (u_La w h)) (List.mem_cons_of_mem _ w_La_22) (by decide +kernel), ?_⟩
  refine List.forall_mem_cons.mpr ⟨am_get_ok (C := R_Po) (T := F_Po) (N := 4) (idx := 41) X rfl (by decide) (fun w h => List.mem_cons_of_mem _ (u_Po w h)) (List.mem_cons_of_mem _ w_La_41) (by decide +kernel), ?_⟩
  refine List.forall_mem_cons.mpr ⟨am_icmp_ge_ok (off := 52) X (by decide +kernel) (by decide), ?_⟩
  refine List.forall_mem_cons.mpr ⟨am_aload_n_ok (k := 0) X (by decide +kernel), ?_⟩
  refine List.forall_mem_cons.mpr ⟨am_get_ok (C := R_La) (T := F_La) (N := 5) (idx := 31) X rfl (by decide) (fun w h => List.mem_cons_of_mem _ (u_La w h)) (List.mem_cons_of_mem _ w_La_31) (by decide +kernel), ?_⟩
  refine List.forall_mem_cons.mpr ⟨am_iload_n_ok (k := 2) X (by decide +kernel), ?_⟩
  refine List.forall_mem_cons.mpr ⟨am_callV_ok (C := R_Hu) (T := F_Hu) (N := 5) (idx := 49) X rfl (am_GV m_La_49 v_Hu_takesIn.1 v_Hu_takesIn.2.1 v_Hu_takesIn.2.2.1 v_Hu_takesIn.2.2.2) ⟨rfl, v_Hu_takesInd⟩ ⟨by decide, by decide⟩ (Nat.zero_le _) (by decide +kernel), ?_⟩
  refine List.forall_mem_cons.mpr ⟨am_if_eq_ok (off := 35) X (by decide +kernel) (by decide), ?_⟩
  refine List.forall_mem_cons.mpr ⟨am_aload_n_ok (k := 0) X (by decide +kernel), ?_⟩
  refine List.forall_mem_cons.mpr ⟨am_get_ok (C := R_La) (T := F_La) (N := 5) (idx := 31) X rfl (by decide) (fun w h => List.mem_cons_of_mem _ (u_La w h)) (List.mem_cons_of_mem _ w_La_31) (by decide +kernel), ?_⟩
  refine List.forall_mem_cons.mpr ⟨am_iload_n_ok (k := 2) X (by decide +kernel), ?_⟩
  refine List.forall_mem_cons.mpr ⟨am_callV_ok (C := R_Hu) (T := F_Hu) (N := 5) (idx := 53) X rfl (am_GV m_La_53 v_Hu_holds.1 v_Hu_holds.2.1 v_Hu_holds.2.2.1 v_Hu_holds.2.2.2) ⟨rfl, v_Hu_holdsd⟩ ⟨by decide, by decide⟩ (Nat.zero_le _) (by decide +kernel), ?_⟩
  refine List.forall_mem_cons.mpr ⟨am_if_ne_ok (off := 24) X (by decide +kernel) (by decide), ?_⟩
  refine List.forall_mem_cons.mpr ⟨am_aload_n_ok (k := 0) X (by decide +kernel), ?_⟩
  refine List.forall_mem_cons.mpr ⟨am_get_ok (C := R_La) (T := F_La) (N := 5) (idx := 9) X rfl (by decide) (fun w h => List.mem_cons_of_mem _ (u_La w h)) (List.mem_cons_of_mem _ w_La_9) (by decide +kernel), ?_⟩
  refine List.forall_mem_cons.mpr ⟨am_iload_n_ok (k := 2) X (by decide +kernel), ?_⟩
  refine List.forall_mem_cons.mpr ⟨am_aload_n_ok (k := 0) X (by decide +kernel), ?_⟩
  refine List.forall_mem_cons.mpr ⟨am_get_ok (C := R_La) (T := F_La) (N := 5) (idx := 15) X rfl (by decide) (fun w h => List.mem_cons_of_mem _ (u_La w h)) (List.mem_cons_of_mem _ w_La_15) (by decide +kernel), ?_⟩
  refine List.forall_mem_cons.mpr ⟨am_iast_ok X am_Y0 (by decide +kernel), ?_⟩
  refine List.forall_mem_cons.mpr ⟨am_aload_n_ok (k := 0) X (by decide +kernel), ?_⟩
  refine List.forall_mem_cons.mpr ⟨am_get_ok (C := R_La) (T := F_La) (N := 5) (idx := 31) X rfl (by decide) (fun w h => List.mem_cons_of_mem _ (u_La w h)) (List.mem_cons_of_mem _ w_La_31) (by decide +kernel), ?_⟩
  refine List.forall_mem_cons.mpr ⟨am_iload_n_ok (k := 2) X (by decide +kernel), ?_⟩
  refine List.forall_mem_cons.mpr ⟨am_callV_ok (C := R_Hu) (T := F_Hu) (N := 5) (idx := 57) X rfl (am_GV m_La_57 v_Hu_leaveOut.1 v_Hu_leaveOut.2.1 v_Hu_leaveOut.2.2.1 v_Hu_leaveOut.2.2.2) ⟨rfl, v_Hu_leaveOutd⟩ ⟨by decide, by decide⟩ (Nat.zero_le _) (by decide +kernel), ?_⟩
  refine List.forall_mem_cons.mpr ⟨am_iinc_ok X (by decide) (by decide +kernel), ?_⟩
  refine List.forall_mem_cons.mpr ⟨am_iinc_ok X (by decide) (by decide +kernel), ?_⟩
  refine List.forall_mem_cons.mpr ⟨am_goto_ok (off := -57) X (by decide +kernel) (by decide), ?_⟩
  refine List.forall_mem_cons.mpr ⟨am_iload_n_ok (k := 1) X (by decide +kernel), ?_⟩
  refine List.forall_mem_cons.mpr ⟨am_ret_ok X hr (by decide +kernel), ?_⟩
  exact fun _ h => absurd h List.not_mem_nil
abbrev b_La_refresh : AT := [(0, am_ald 0 1), (1, am_get am_Y 3 4), (4, am_ald 0 1), (5, am_get am_Y 3 0), (8, am_get am_Y 4 3), (11, am_icmp 1 15), (14, am_vret), (15, am_ald 0 1), (16, am_get am_Y 3 1), (19, am_callV am_Y 1 6 0), (22, am_ald 0 1), (23, am_ic 0 1), (24, am_put am_Y 3 3), (27, am_ald 0 1), (28, am_get am_Y 3 0), (31, am_get am_Y 4 2), (34, am_ist 1 1), (35, am_ic 0 1), (36, am_ist 2 1), (37, am_ild 2 1), (38, am_ic (60) 2), (40, am_icmp 3 70), (43, am_ild 1 1), (44, am_if 5 70), (47, am_ild 1 1), (48, am_ald 0 1), (49, am_callV am_Y 3 22 0), (52, am_isub), (53, am_ist 1 1), (54, am_ald 0 1), (55, am_dup), (56, am_get am_Y 3 3), (59, am_ic 1 1), (60, am_iadd), (61, am_put am_Y 3 3), (64, am_inc 2 (1)), (67, am_goto 37), (70, am_ald 0 1), (71, am_ald 0 1), (72, am_get am_Y 3 0), (75, am_get am_Y 4 3), (78, am_put am_Y 3 4), (81, am_vret)]
set_option maxRecDepth 100000 in
set_option maxHeartbeats 4000000 in
theorem T_La_refresh : am_T am_Y am_cl am_Gw am_mi 23 b_La_refresh := by
  intro E A p l e s m args below meth c Rt X hr
  refine List.forall_mem_cons.mpr ⟨am_aload_n_ok (k := 0) X (by decide +kernel), ?_⟩
  refine List.forall_mem_cons.mpr ⟨am_get_ok (C := R_La) (T := F_La) (N := 5) (idx := 19) X rfl (by decide) (fun w h => List.mem_cons_of_mem _ (u_La w h)) (List.mem_cons_of_mem _ w_La_19) (by decide +kernel), ?_⟩
  refine List.forall_mem_cons.mpr ⟨am_aload_n_ok (k := 0) X (by decide +kernel), ?_⟩
  refine List.forall_mem_cons.mpr ⟨am_get_ok (C := R_La) (T := F_La) (N := 5) (idx := 22) X rfl (by decide) (fun w h => List.mem_cons_of_mem _ (u_La w h)) (List.mem_cons_of_mem _ w_La_22) (by decide +kernel), ?_⟩
  refine List.forall_mem_cons.mpr ⟨am_get_ok (C := R_Po) (T := F_Po) (N := 4) (idx := 35) X rfl (by decide) (fun w h => List.mem_cons_of_mem _ (u_Po w h)) (List.mem_cons_of_mem _ w_La_35) (by decide +kernel), ?_⟩
  refine List.forall_mem_cons.mpr ⟨am_icmp_ne_ok (off := 4) X (by decide +kernel) (by decide), ?_⟩
  refine List.forall_mem_cons.mpr ⟨am_vret_ok X hr (by decide +kernel), ?_⟩
  refine List.forall_mem_cons.mpr ⟨am_aload_n_ok (k := 0) X (by decide +kernel), ?_⟩
  refine List.forall_mem_cons.mpr ⟨am_get_ok (C := R_La) (T := F_La) (N := 5) (idx := 31) X rfl (by decide) (fun w h => List.mem_cons_of_mem _ (u_La w h)) (List.mem_cons_of_mem _ w_La_31) (by decide +kernel), ?_⟩
  refine List.forall_mem_cons.mpr ⟨am_callV_ok (C := R_Hu) (T := F_Hu) (N := 5) (idx := 38) X rfl (am_GV m_La_38 v_Hu_takeAllIn.1 v_Hu_takeAllIn.2.1 v_Hu_takeAllIn.2.2.1 v_Hu_takeAllIn.2.2.2) ⟨rfl, v_Hu_takeAllInd⟩ ⟨by decide, by decide⟩ (Nat.zero_le _) (by decide +kernel), ?_⟩
  refine List.forall_mem_cons.mpr ⟨am_aload_n_ok (k := 0) X (by decide +kernel), ?_⟩
  refine List.forall_mem_cons.mpr ⟨am_iconst_ok X (by decide +kernel), ?_⟩
  refine List.forall_mem_cons.mpr ⟨am_put_ok (C := R_La) (T := F_La) (N := 5) (idx := 15) X rfl (by decide) (fun w h => List.mem_cons_of_mem _ (u_La w h)) t_La_ok n_La rfl (by decide +kernel) (List.mem_cons_of_mem _ w_La_15) (by decide +kernel), ?_⟩
  refine List.forall_mem_cons.mpr ⟨am_aload_n_ok (k := 0) X (by decide +kernel), ?_⟩
  refine List.forall_mem_cons.mpr ⟨am_get_ok (C := R_La) (T := F_La) (N := 5) (idx := 22) X rfl (by decide) (fun w h => List.mem_cons_of_mem _ (u_La w h)) (List.mem_cons_of_mem _ w_La_22) (by decide +kernel), ?_⟩
  refine List.forall_mem_cons.mpr ⟨am_get_ok (C := R_Po) (T := F_Po) (N := 4) (idx := 41) X rfl (by decide) (fun w h => List.mem_cons_of_mem _ (u_Po w h)) (List.mem_cons_of_mem _ w_La_41) (by decide +kernel), ?_⟩
  refine List.forall_mem_cons.mpr ⟨am_istore_n_ok (k := 1) X (by decide) (by decide +kernel), ?_⟩
  refine List.forall_mem_cons.mpr ⟨am_iconst_ok X (by decide +kernel), ?_⟩
  refine List.forall_mem_cons.mpr ⟨am_istore_n_ok (k := 2) X (by decide) (by decide +kernel), ?_⟩
  refine List.forall_mem_cons.mpr ⟨am_iload_n_ok (k := 2) X (by decide +kernel), ?_⟩
  refine List.forall_mem_cons.mpr ⟨am_bipush_ok X (by decide +kernel) (by decide), ?_⟩
  refine List.forall_mem_cons.mpr ⟨am_icmp_ge_ok (off := 30) X (by decide +kernel) (by decide), ?_⟩
  refine List.forall_mem_cons.mpr ⟨am_iload_n_ok (k := 1) X (by decide +kernel), ?_⟩
  refine List.forall_mem_cons.mpr ⟨am_if_le_ok (off := 26) X (by decide +kernel) (by decide), ?_⟩
  refine List.forall_mem_cons.mpr ⟨am_iload_n_ok (k := 1) X (by decide +kernel), ?_⟩
  refine List.forall_mem_cons.mpr ⟨am_aload_n_ok (k := 0) X (by decide +kernel), ?_⟩
  refine List.forall_mem_cons.mpr ⟨am_callV_ok (C := R_La) (T := F_La) (N := 5) (idx := 42) X rfl (am_GV m_La_42 v_La_takeOffBorder.1 v_La_takeOffBorder.2.1 v_La_takeOffBorder.2.2.1 v_La_takeOffBorder.2.2.2) ⟨rfl, v_La_takeOffBorderd⟩ ⟨by decide, by decide⟩ (Nat.zero_le _) (by decide +kernel), ?_⟩
  refine List.forall_mem_cons.mpr ⟨am_isub_ok X (by decide +kernel), ?_⟩
  refine List.forall_mem_cons.mpr ⟨am_istore_n_ok (k := 1) X (by decide) (by decide +kernel), ?_⟩
  refine List.forall_mem_cons.mpr ⟨am_aload_n_ok (k := 0) X (by decide +kernel), ?_⟩
  refine List.forall_mem_cons.mpr ⟨am_dup_ok X (by decide +kernel), ?_⟩
  refine List.forall_mem_cons.mpr ⟨am_get_ok (C := R_La) (T := F_La) (N := 5) (idx := 15) X rfl (by decide) (fun w h => List.mem_cons_of_mem _ (u_La w h)) (List.mem_cons_of_mem _ w_La_15) (by decide +kernel), ?_⟩
  refine List.forall_mem_cons.mpr ⟨am_iconst_ok X (by decide +kernel), ?_⟩
  refine List.forall_mem_cons.mpr ⟨am_iadd_ok X (by decide +kernel), ?_⟩
  refine List.forall_mem_cons.mpr ⟨am_put_ok (C := R_La) (T := F_La) (N := 5) (idx := 15) X rfl (by decide) (fun w h => List.mem_cons_of_mem _ (u_La w h)) t_La_ok n_La rfl (by decide +kernel) (List.mem_cons_of_mem _ w_La_15) (by decide +kernel), ?_⟩
  refine List.forall_mem_cons.mpr ⟨am_iinc_ok X (by decide) (by decide +kernel), ?_⟩
  refine List.forall_mem_cons.mpr ⟨am_goto_ok (off := -30) X (by decide +kernel) (by decide), ?_⟩
  refine List.forall_mem_cons.mpr ⟨am_aload_n_ok (k := 0) X (by decide +kernel), ?_⟩
  refine List.forall_mem_cons.mpr ⟨am_aload_n_ok (k := 0) X (by decide +kernel), ?_⟩
  refine List.forall_mem_cons.mpr ⟨am_get_ok (C := R_La) (T := F_La) (N := 5) (idx := 22) X rfl (by decide) (fun w h => List.mem_cons_of_mem _ (u_La w h)) (List.mem_cons_of_mem _ w_La_22) (by decide +kernel), ?_⟩
  refine List.forall_mem_cons.mpr ⟨am_get_ok (C := R_Po) (T := F_Po) (N := 4) (idx := 35) X rfl (by decide) (fun w h => List.mem_cons_of_mem _ (u_Po w h)) (List.mem_cons_of_mem _ w_La_35) (by decide +kernel), ?_⟩
  refine List.forall_mem_cons.mpr ⟨am_put_ok (C := R_La) (T := F_La) (N := 5) (idx := 19) X rfl (by decide) (fun w h => List.mem_cons_of_mem _ (u_La w h)) t_La_ok n_La rfl (by decide +kernel) (List.mem_cons_of_mem _ w_La_19) (by decide +kernel), ?_⟩
  refine List.forall_mem_cons.mpr ⟨am_vret_ok X hr (by decide +kernel), ?_⟩
  exact fun _ h => absurd h List.not_mem_nil
abbrev b_Po_pairsAtOnePlace : AT := [(0, am_ic 0 1), (1, am_ist 1 1), (2, am_ic 0 1), (3, am_ist 2 1), (4, am_ild 2 1), (5, am_ald 0 1), (6, am_get am_Y 4 2), (9, am_icmp 3 48), (12, am_ild 2 1), (13, am_ic 1 1), (14, am_iadd), (15, am_ist 3 1), (16, am_ild 3 1), (17, am_ald 0 1), (18, am_get am_Y 4 2), (21, am_icmp 3 42), (24, am_ald 0 1), (25, am_ild 2 1), (26, am_ild 3 1), (27, am_callV am_Y 4 10 2), (30, am_if 0 36), (33, am_inc 1 (1)), (36, am_inc 3 (1)), (39, am_goto 16), (42, am_inc 2 (1)), (45, am_goto 4), (48, am_ild 1 1), (49, am_ret)]
set_option maxRecDepth 100000 in
set_option maxHeartbeats 4000000 in
theorem T_Po_pairsAtOnePlace : am_T am_Y am_cl am_Gw am_mi 24 b_Po_pairsAtOnePlace := by
  intro E A p l e s m args below meth c Rt X hr
  refine List.forall_mem_cons.mpr ⟨am_iconst_ok X (by decide +kernel), ?_⟩
  refine List.forall_mem_cons.mpr ⟨am_istore_n_ok (k := 1) X (by decide) (by decide +kernel), ?_⟩
  refine List.forall_mem_cons.mpr ⟨am_iconst_ok X (by decide +kernel), ?_⟩
  refine List.forall_mem_cons.mpr ⟨am_istore_n_ok (k := 2) X (by decide) (by decide +kernel), ?_⟩
  refine List.forall_mem_cons.mpr ⟨am_iload_n_ok (k := 2) X (by decide +kernel), ?_⟩
  refine List.forall_mem_cons.mpr ⟨am_aload_n_ok (k := 0) X (by decide +kernel), ?_⟩
  refine List.forall_mem_cons.mpr ⟨am_get_ok (C := R_Po) (T := F_Po) (N := 4) (idx := 18) X rfl (by decide) (fun w h => List.mem_cons_of_mem _ (u_Po w h)) (List.mem_cons_of_mem _ w_Po_18) (by decide +kernel), ?_⟩
  refine List.forall_mem_cons.mpr ⟨am_icmp_ge_ok (off := 39) X (by decide +kernel) (by decide), ?_⟩
  refine List.forall_mem_cons.mpr ⟨am_iload_n_ok (k := 2) X (by decide +kernel), ?_⟩
  refine List.forall_mem_cons.mpr ⟨am_iconst_ok X (by decide +kernel), ?_⟩
  refine List.forall_mem_cons.mpr ⟨am_iadd_ok X (by decide +kernel), ?_⟩
  refine List.forall_mem_cons.mpr ⟨am_istore_n_ok (k := 3) X (by decide) (by decide +kernel), ?_⟩
  refine List.forall_mem_cons.mpr ⟨am_iload_n_ok (k := 3) X (by decide +kernel), ?_⟩
  refine List.forall_mem_cons.mpr ⟨am_aload_n_ok (k := 0) X (by decide +kernel), ?_⟩
  refine List.forall_mem_cons.mpr ⟨am_get_ok (C := R_Po) (T := F_Po) (N := 4) (idx := 18) X rfl (by decide) (fun w h => List.mem_cons_of_mem _ (u_Po w h)) (List.mem_cons_of_mem _ w_Po_18) (by decide +kernel), ?_⟩
  refine List.forall_mem_cons.mpr ⟨am_icmp_ge_ok (off := 21) X (by decide +kernel) (by decide), ?_⟩
  refine List.forall_mem_cons.mpr ⟨am_aload_n_ok (k := 0) X (by decide +kernel), ?_⟩
  refine List.forall_mem_cons.mpr ⟨am_iload_n_ok (k := 2) X (by decide +kernel), ?_⟩
  refine List.forall_mem_cons.mpr ⟨am_iload_n_ok (k := 3) X (by decide +kernel), ?_⟩
  refine List.forall_mem_cons.mpr ⟨am_callV_ok (C := R_Po) (T := F_Po) (N := 4) (idx := 40) X rfl (am_GV m_Po_40 v_Po_areAtOnePlace.1 v_Po_areAtOnePlace.2.1 v_Po_areAtOnePlace.2.2.1 v_Po_areAtOnePlace.2.2.2) ⟨rfl, v_Po_areAtOnePlaced⟩ ⟨by decide, by decide⟩ (Nat.zero_le _) (by decide +kernel), ?_⟩
  refine List.forall_mem_cons.mpr ⟨am_if_eq_ok (off := 6) X (by decide +kernel) (by decide), ?_⟩
  refine List.forall_mem_cons.mpr ⟨am_iinc_ok X (by decide) (by decide +kernel), ?_⟩
  refine List.forall_mem_cons.mpr ⟨am_iinc_ok X (by decide) (by decide +kernel), ?_⟩
  refine List.forall_mem_cons.mpr ⟨am_goto_ok (off := -23) X (by decide +kernel) (by decide), ?_⟩
  refine List.forall_mem_cons.mpr ⟨am_iinc_ok X (by decide) (by decide +kernel), ?_⟩
  refine List.forall_mem_cons.mpr ⟨am_goto_ok (off := -41) X (by decide +kernel) (by decide), ?_⟩
  refine List.forall_mem_cons.mpr ⟨am_iload_n_ok (k := 1) X (by decide +kernel), ?_⟩
  refine List.forall_mem_cons.mpr ⟨am_ret_ok X hr (by decide +kernel), ?_⟩
  exact fun _ h => absurd h List.not_mem_nil
