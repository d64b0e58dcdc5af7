/-! printed: tables of the methods -/
abbrev b_Mo_triangle : AT := [(0, am_ald 0 1), (1, am_ic 0 1), (2, am_put am_Y 9 0), (5, am_ild 1 1), (6, am_if 2 26), (9, am_ild 1 1), (10, am_ald 0 1), (11, am_get am_Y 9 5), (14, am_ic 3 1), (15, am_isub), (16, am_icmp 4 26), (19, am_ald 0 1), (20, am_callV am_Y 9 140 0), (23, am_if 1 28), (26, am_ic (-1) 1), (27, am_ret), (28, am_ald 0 1), (29, am_callV am_Y 9 142 0), (32, am_callS 127 1), (35, am_ist 2 1), (36, am_ic 0 1), (37, am_ist 3 1), (38, am_ild 3 1), (39, am_ald 0 1), (40, am_get am_Y 9 5), (43, am_icmp 3 59), (46, am_ald 0 1), (47, am_get am_Y 9 12), (50, am_ild 3 1), (51, am_ic 0 1), (52, am_zast am_Y), (53, am_inc 3 (1)), (56, am_goto 38), (59, am_ic 0 1), (60, am_ist 3 1), (61, am_ald 0 1), (62, am_get am_Y 9 5), (65, am_ist 4 2), (67, am_ild 4 2), (69, am_ic 3 1), (70, am_icmp 5 155), (73, am_ic 0 1), (74, am_ist 5 2), (76, am_ald 0 1), (77, am_get am_Y 9 12), (80, am_ild 5 2), (82, am_zald am_Y), (83, am_if 1 96), (86, am_ald 0 1), (87, am_ild 5 2), (89, am_ild 2 1), (90, am_callV am_Y 9 146 2), (93, am_if 1 102), (96, am_inc 5 (1)), (99, am_goto 76), (102, am_ild 3 1), (103, am_ild 1 1), (104, am_icmp 1 138), (107, am_ic (4096) 3), (110, am_ald 0 1), (111, am_ild 5 2), (113, am_ald 0 1), (114, am_get am_Y 9 5), (117, am_ic 1 1), (118, am_isub), (119, am_callV am_Y 9 145 2), (122, am_imul), (123, am_ic (64) 2), (125, am_ild 5 2), (127, am_imul), (128, am_iadd), (129, am_ald 0 1), (130, am_ild 5 2), (132, am_ic 1 1), (133, am_callV am_Y 9 145 2), (136, am_iadd), (137, am_ret), (138, am_ald 0 1), (139, am_get am_Y 9 12), (142, am_ild 5 2), (144, am_ic 1 1), (145, am_zast am_Y), (146, am_inc 3 (1)), (149, am_inc 4 (-1)), (152, am_goto 67), (155, am_ic 0 1), (156, am_ist 4 2), (158, am_ald 0 1), (159, am_get am_Y 9 12), (162, am_ild 4 2), (164, am_zald am_Y), (165, am_if 0 174), (168, am_inc 4 (1)), (171, am_goto 158), (174, am_ic (4096) 3), (177, am_ild 4 2), (179, am_imul), (180, am_ic (64) 2), (182, am_ald 0 1), (183, am_ild 4 2), (185, am_ic 1 1), (186, am_callV am_Y 9 145 2), (189, am_imul), (190, am_iadd), (191, am_ald 0 1), (192, am_ald 0 1), (193, am_ild 4 2), (195, am_ic 1 1), (196, am_callV am_Y 9 145 2), (199, am_ic 1 1), (200, am_callV am_Y 9 145 2), (203, am_iadd), (204, am_ret)]
set_option maxRecDepth 100000 in
set_option maxHeartbeats 4000000 in
theorem T_Mo_triangle : am_T am_Y am_cl am_Gw am_mi 147 b_Mo_triangle := by
  intro E A p l e s m args below meth c Rt X hr
  refine List.forall_mem_cons.mpr ⟨am_aload_n_ok (k := 0) X (by decide +kernel), ?_⟩
  refine List.forall_mem_cons.mpr ⟨am_iconst_ok X (by decide +kernel), ?_⟩
  refine List.forall_mem_cons.mpr ⟨am_put_ok (C := R_Mo) (T := F_Mo) (N := 13) (idx := 39) X rfl (by decide) (fun w h => List.mem_cons_of_mem _ (u_Mo w h)) t_Mo_ok n_Mo rfl (by decide +kernel) (List.mem_cons_of_mem _ w_Mo_39) (by decide +kernel), ?_⟩
  refine List.forall_mem_cons.mpr ⟨am_iload_n_ok (k := 1) X (by decide +kernel), ?_⟩
  refine List.forall_mem_cons.mpr ⟨am_if_lt_ok (off := 20) X (by decide +kernel) (by decide), ?_⟩
  refine List.forall_mem_cons.mpr ⟨am_iload_n_ok (k := 1) X (by decide +kernel), ?_⟩
  refine List.forall_mem_cons.mpr ⟨am_aload_n_ok (k := 0) X (by decide +kernel), ?_⟩
  refine List.forall_mem_cons.mpr ⟨am_get_ok (C := R_Mo) (T := F_Mo) (N := 13) (idx := 52) X rfl (by decide) (fun w h => List.mem_cons_of_mem _ (u_Mo w h)) (List.mem_cons_of_mem _ w_Mo_52) (by decide +kernel), ?_⟩
  refine List.forall_mem_cons.mpr ⟨am_iconst_ok X (by decide +kernel), ?_⟩
  refine List.forall_mem_cons.mpr ⟨am_isub_ok X (by decide +kernel), ?_⟩
  refine List.forall_mem_cons.mpr ⟨am_icmp_gt_ok (off := 10) X (by decide +kernel) (by decide), ?_⟩
  refine List.forall_mem_cons.mpr ⟨am_aload_n_ok (k := 0) X (by decide +kernel), ?_⟩
  refine List.forall_mem_cons.mpr ⟨am_callV_ok (C := R_Mo) (T := F_Mo) (N := 13) (idx := 156) X rfl (am_GV m_Mo_156 v_Mo_isSimple.1 v_Mo_isSimple.2.1 v_Mo_isSimple.2.2.1 v_Mo_isSimple.2.2.2) ⟨rfl, v_Mo_isSimpled⟩ ⟨by decide, by decide⟩ (Nat.zero_le _) (by decide +kernel), ?_⟩
  refine List.forall_mem_cons.mpr ⟨am_if_ne_ok (off := 5) X (by decide +kernel) (by decide), ?_⟩
  refine List.forall_mem_cons.mpr ⟨am_iconst_ok X (by decide +kernel), ?_⟩
  refine List.forall_mem_cons.mpr ⟨am_ret_ok X hr (by decide +kernel), ?_⟩
  refine List.forall_mem_cons.mpr ⟨am_aload_n_ok (k := 0) X (by decide +kernel), ?_⟩
  refine List.forall_mem_cons.mpr ⟨am_callV_ok (C := R_Mo) (T := F_Mo) (N := 13) (idx := 159) X rfl (am_GV m_Mo_159 v_Mo_roundOf.1 v_Mo_roundOf.2.1 v_Mo_roundOf.2.2.1 v_Mo_roundOf.2.2.2) ⟨rfl, v_Mo_roundOfd⟩ ⟨by decide, by decide⟩ (Nat.zero_le _) (by decide +kernel), ?_⟩
  refine List.forall_mem_cons.mpr ⟨am_callS_ok (idx := 137) X (am_GS m_Mo_137 v_Mo_signOf.1 v_Mo_signOf.2.1 v_Mo_signOf.2.2) ⟨rfl, v_Mo_signOfd⟩ ⟨by decide, by decide⟩ (by decide +kernel), ?_⟩
  refine List.forall_mem_cons.mpr ⟨am_istore_n_ok (k := 2) X (by decide) (by decide +kernel), ?_⟩
  refine List.forall_mem_cons.mpr ⟨am_iconst_ok X (by decide +kernel), ?_⟩
  refine List.forall_mem_cons.mpr ⟨am_istore_n_ok (k := 3) X (by decide) (by decide +kernel), ?_⟩
  refine List.forall_mem_cons.mpr ⟨am_iload_n_ok (k := 3) X (by decide +kernel), ?_⟩
  refine List.forall_mem_cons.mpr ⟨am_aload_n_ok (k := 0) X (by decide +kernel), ?_⟩
  refine List.forall_mem_cons.mpr ⟨am_get_ok (C := R_Mo) (T := F_Mo) (N := 13) (idx := 52) X rfl (by decide) (fun w h => List.mem_cons_of_mem _ (u_Mo w h)) (List.mem_cons_of_mem _ w_Mo_52) (by decide +kernel), ?_⟩
  refine List.forall_mem_cons.mpr ⟨am_icmp_ge_ok (off := 16) X (by decide +kernel) (by decide), ?_⟩
  refine List.forall_mem_cons.mpr ⟨am_aload_n_ok (k := 0) X (by decide +kernel), ?_⟩
  refine List.forall_mem_cons.mpr ⟨am_get_ok (C := R_Mo) (T := F_Mo) (N := 13) (idx := 36) X rfl (by decide) (fun w h => List.mem_cons_of_mem _ (u_Mo w h)) (List.mem_cons_of_mem _ w_Mo_36) (by decide +kernel), ?_⟩
  refine List.forall_mem_cons.mpr ⟨am_iload_n_ok (k := 3) X (by decide +kernel), ?_⟩
  refine List.forall_mem_cons.mpr ⟨am_iconst_ok X (by decide +kernel), ?_⟩
  refine List.forall_mem_cons.mpr ⟨am_zast_ok X am_Y0 (by decide +kernel), ?_⟩
  refine List.forall_mem_cons.mpr ⟨am_iinc_ok X (by decide) (by decide +kernel), ?_⟩
  refine List.forall_mem_cons.mpr ⟨am_goto_ok (off := -18) X (by decide +kernel) (by decide), ?_⟩
  refine List.forall_mem_cons.mpr ⟨am_iconst_ok X (by decide +kernel), ?_⟩
  refine List.forall_mem_cons.mpr ⟨am_istore_n_ok (k := 3) X (by decide) (by decide +kernel), ?_⟩
  refine List.forall_mem_cons.mpr ⟨am_aload_n_ok (k := 0) X (by decide +kernel), ?_⟩
  refine List.forall_mem_cons.mpr ⟨am_get_ok (C := R_Mo) (T := F_Mo) (N := 13) (idx := 52) X rfl (by decide) (fun w h => List.mem_cons_of_mem _ (u_Mo w h)) (List.mem_cons_of_mem _ w_Mo_52) (by decide +kernel), ?_⟩
  refine List.forall_mem_cons.mpr ⟨am_istore_ok X (by decide) (by decide +kernel), ?_⟩
  refine List.forall_mem_cons.mpr ⟨am_iload_ok X (by decide +kernel), ?_⟩
  refine List.forall_mem_cons.mpr ⟨am_iconst_ok X (by decide +kernel), ?_⟩
  refine List.forall_mem_cons.mpr ⟨am_icmp_le_ok (off := 85) X (by decide +kernel) (by decide), ?_⟩
  refine List.forall_mem_cons.mpr ⟨am_iconst_ok X (by decide +kernel), ?_⟩
  refine List.forall_mem_cons.mpr ⟨am_istore_ok X (by decide) (by decide +kernel), ?_⟩
  refine List.forall_mem_cons.mpr ⟨am_aload_n_ok (k := 0) X (by decide +kernel), ?_⟩
  refine List.forall_mem_cons.mpr ⟨am_get_ok (C := R_Mo) (T := F_Mo) (N := 13) (idx := 36) X rfl (by decide) (fun w h => List.mem_cons_of_mem _ (u_Mo w h)) (List.mem_cons_of_mem _ w_Mo_36) (by decide +kernel), ?_⟩
  refine List.forall_mem_cons.mpr ⟨am_iload_ok X (by decide +kernel), ?_⟩
  refine List.forall_mem_cons.mpr ⟨am_zald_ok X am_Y0 (by decide +kernel), ?_⟩
  refine List.forall_mem_cons.mpr ⟨am_if_ne_ok (off := 13) X (by decide +kernel) (by decide), ?_⟩
  refine List.forall_mem_cons.mpr ⟨am_aload_n_ok (k := 0) X (by decide +kernel), ?_⟩
  refine List.forall_mem_cons.mpr ⟨am_iload_ok X (by decide +kernel), ?_⟩
  refine List.forall_mem_cons.mpr ⟨am_iload_n_ok (k := 2) X (by decide +kernel), ?_⟩
  refine List.forall_mem_cons.mpr ⟨am_callV_ok (C := R_Mo) (T := F_Mo) (N := 13) (idx := 166) X rfl (am_GV m_Mo_166 v_Mo_isEar.1 v_Mo_isEar.2.1 v_Mo_isEar.2.2.1 v_Mo_isEar.2.2.2) ⟨rfl, v_Mo_isEard⟩ ⟨by decide, by decide⟩ (Nat.zero_le _) (by decide +kernel), ?_⟩
  refine List.forall_mem_cons.mpr ⟨am_if_ne_ok (off := 9) X (by decide +kernel) (by decide), ?_⟩
  refine List.forall_mem_cons.mpr ⟨am_iinc_ok X (by decide) (by decide +kernel), ?_⟩
  refine List.forall_mem_cons.mpr ⟨am_goto_ok (off := -23) X (by decide +kernel) (by decide), ?_⟩
  refine List.forall_mem_cons.mpr ⟨am_iload_n_ok (k := 3) X (by decide +kernel), ?_⟩
  refine List.forall_mem_cons.mpr ⟨am_iload_n_ok (k := 1) X (by decide +kernel), ?_⟩
  refine List.forall_mem_cons.mpr ⟨am_icmp_ne_ok (off := 34) X (by decide +kernel) (by decide), ?_⟩
  refine List.forall_mem_cons.mpr ⟨am_sipush_ok X (by decide +kernel) (by decide), ?_⟩
  refine List.forall_mem_cons.mpr ⟨am_aload_n_ok (k := 0) X (by decide +kernel), ?_⟩
  refine List.forall_mem_cons.mpr ⟨am_iload_ok X (by decide +kernel), ?_⟩
  refine List.forall_mem_cons.mpr ⟨am_aload_n_ok (k := 0) X (by decide +kernel), ?_⟩
  refine List.forall_mem_cons.mpr ⟨am_get_ok (C := R_Mo) (T := F_Mo) (N := 13) (idx := 52) X rfl (by decide) (fun w h => List.mem_cons_of_mem _ (u_Mo w h)) (List.mem_cons_of_mem _ w_Mo_52) (by decide +kernel), ?_⟩
  refine List.forall_mem_cons.mpr ⟨am_iconst_ok X (by decide +kernel), ?_⟩
  refine List.forall_mem_cons.mpr ⟨am_isub_ok X (by decide +kernel), ?_⟩
  refine List.forall_mem_cons.mpr ⟨am_callV_ok (C := R_Mo) (T := F_Mo) (N := 13) (idx := 163) X rfl (am_GV m_Mo_163 v_Mo_leftFrom.1 v_Mo_leftFrom.2.1 v_Mo_leftFrom.2.2.1 v_Mo_leftFrom.2.2.2) ⟨rfl, v_Mo_leftFromd⟩ ⟨by decide, by decide⟩ (Nat.zero_le _) (by decide +kernel), ?_⟩
  refine List.forall_mem_cons.mpr ⟨am_imul_ok X (by decide +kernel), ?_⟩
  refine List.forall_mem_cons.mpr ⟨am_bipush_ok X (by decide +kernel) (by decide), ?_⟩
  refine List.forall_mem_cons.mpr ⟨am_iload_ok X (by decide +kernel), ?_⟩
  refine List.forall_mem_cons.mpr ⟨am_imul_ok X (by decide +kernel), ?_⟩
  refine List.forall_mem_cons.mpr ⟨am_iadd_ok X (by decide +kernel), ?_⟩
  refine List.forall_mem_cons.mpr ⟨am_aload_n_ok (k := 0) X (by decide +kernel), ?_⟩
  refine List.forall_mem_cons.mpr ⟨am_iload_ok X (by decide +kernel), ?_⟩
  refine List.forall_mem_cons.mpr ⟨am_iconst_ok X (by decide +kernel), ?_⟩
  refine List.forall_mem_cons.mpr ⟨am_callV_ok (C := R_Mo) (T := F_Mo) (N := 13) (idx := 163) X rfl (am_GV m_Mo_163 v_Mo_leftFrom.1 v_Mo_leftFrom.2.1 v_Mo_leftFrom.2.2.1 v_Mo_leftFrom.2.2.2) ⟨rfl, v_Mo_leftFromd⟩ ⟨by decide, by decide⟩ (Nat.zero_le _) (by decide +kernel), ?_⟩
  refine List.forall_mem_cons.mpr ⟨am_iadd_ok X (by decide +kernel), ?_⟩
  refine List.forall_mem_cons.mpr ⟨am_ret_ok X hr (by decide +kernel), ?_⟩
  refine List.forall_mem_cons.mpr ⟨am_aload_n_ok (k := 0) X (by decide +kernel), ?_⟩
  refine List.forall_mem_cons.mpr ⟨am_get_ok (C := R_Mo) (T := F_Mo) (N := 13) (idx := 36) X rfl (by decide) (fun w h => List.mem_cons_of_mem _ (u_Mo w h)) (List.mem_cons_of_mem _ w_Mo_36) (by decide +kernel), ?_⟩
  refine List.forall_mem_cons.mpr ⟨am_iload_ok X (by decide +kernel), ?_⟩
  refine List.forall_mem_cons.mpr ⟨am_iconst_ok X (by decide +kernel), ?_⟩
  refine List.forall_mem_cons.mpr ⟨am_zast_ok X am_Y0 (by decide +kernel), ?_⟩
  refine List.forall_mem_cons.mpr ⟨am_iinc_ok X (by decide) (by decide +kernel), ?_⟩
  refine List.forall_mem_cons.mpr ⟨am_iinc_ok X (by decide) (by decide +kernel), ?_⟩
  refine List.forall_mem_cons.mpr ⟨am_goto_ok (off := -85) X (by decide +kernel) (by decide), ?_⟩
  refine List.forall_mem_cons.mpr ⟨am_iconst_ok X (by decide +kernel), ?_⟩
  refine List.forall_mem_cons.mpr ⟨am_istore_ok X (by decide) (by decide +kernel), ?_⟩
  refine List.forall_mem_cons.mpr ⟨am_aload_n_ok (k := 0) X (by decide +kernel), ?_⟩
  refine List.forall_mem_cons.mpr ⟨am_get_ok (C := R_Mo) (T := F_Mo) (N := 13) (idx := 36) X rfl (by decide) (fun w h => List.mem_cons_of_mem _ (u_Mo w h)) (List.mem_cons_of_mem _ w_Mo_36) (by decide +kernel), ?_⟩
  refine List.forall_mem_cons.mpr ⟨am_iload_ok X (by decide +kernel), ?_⟩
  refine List.forall_mem_cons.mpr ⟨am_zald_ok X am_Y0 (by decide +kernel), ?_⟩
  refine List.forall_mem_cons.mpr ⟨am_if_eq_ok (off := 9) X (by decide +kernel) (by decide), ?_⟩
  refine List.forall_mem_cons.mpr ⟨am_iinc_ok X (by decide) (by decide +kernel), ?_⟩
  refine List.forall_mem_cons.mpr ⟨am_goto_ok (off := -13) X (by decide +kernel) (by decide), ?_⟩
  refine List.forall_mem_cons.mpr ⟨am_sipush_ok X (by decide +kernel) (by decide), ?_⟩
  refine List.forall_mem_cons.mpr ⟨am_iload_ok X (by decide +kernel), ?_⟩
  refine List.forall_mem_cons.mpr ⟨am_imul_ok X (by decide +kernel), ?_⟩
  refine List.forall_mem_cons.mpr ⟨am_bipush_ok X (by decide +kernel) (by decide), ?_⟩
  refine List.forall_mem_cons.mpr ⟨am_aload_n_ok (k := 0) X (by decide +kernel), ?_⟩
  refine List.forall_mem_cons.mpr ⟨am_iload_ok X (by decide +kernel), ?_⟩
  refine List.forall_mem_cons.mpr ⟨am_iconst_ok X (by decide +kernel), ?_⟩
  refine List.forall_mem_cons.mpr ⟨am_callV_ok (C := R_Mo) (T := F_Mo) (N := 13) (idx := 163) X rfl (am_GV m_Mo_163 v_Mo_leftFrom.1 v_Mo_leftFrom.2.1 v_Mo_leftFrom.2.2.1 v_Mo_leftFrom.2.2.2) ⟨rfl, v_Mo_leftFromd⟩ ⟨by decide, by decide⟩ (Nat.zero_le _) (by decide +kernel), ?_⟩
  refine List.forall_mem_cons.mpr ⟨am_imul_ok X (by decide +kernel), ?_⟩
  refine List.forall_mem_cons.mpr ⟨am_iadd_ok X (by decide +kernel), ?_⟩
  refine List.forall_mem_cons.mpr ⟨am_aload_n_ok (k := 0) X (by decide +kernel), ?_⟩
  refine List.forall_mem_cons.mpr ⟨am_aload_n_ok (k := 0) X (by decide +kernel), ?_⟩
  refine List.forall_mem_cons.mpr ⟨am_iload_ok X (by decide +kernel), ?_⟩
  refine List.forall_mem_cons.mpr ⟨am_iconst_ok X (by decide +kernel), ?_⟩
  refine List.forall_mem_cons.mpr ⟨am_callV_ok (C := R_Mo) (T := F_Mo) (N := 13) (idx := 163) X rfl (am_GV m_Mo_163 v_Mo_leftFrom.1 v_Mo_leftFrom.2.1 v_Mo_leftFrom.2.2.1 v_Mo_leftFrom.2.2.2) ⟨rfl, v_Mo_leftFromd⟩ ⟨by decide, by decide⟩ (Nat.zero_le _) (by decide +kernel), ?_⟩
  refine List.forall_mem_cons.mpr ⟨am_iconst_ok X (by decide +kernel), ?_⟩
  refine List.forall_mem_cons.mpr ⟨am_callV_ok (C := R_Mo) (T := F_Mo) (N := 13) (idx := 163) X rfl (am_GV m_Mo_163 v_Mo_leftFrom.1 v_Mo_leftFrom.2.1 v_Mo_leftFrom.2.2.1 v_Mo_leftFrom.2.2.2) ⟨rfl, v_Mo_leftFromd⟩ ⟨by decide, by decide⟩ (Nat.zero_le _) (by decide +kernel), ?_⟩
  refine List.forall_mem_cons.mpr ⟨am_iadd_ok X (by decide +kernel), ?_⟩
  refine List.forall_mem_cons.mpr ⟨am_ret_ok X hr (by decide +kernel), ?_⟩
  exact fun _ h => absurd h List.not_mem_nil
abbrev b_Mo_check : AT := [(0, am_ald 0 1), (1, am_ic 0 1), (2, am_put am_Y 9 0), (5, am_ic 1 1), (6, am_ret)]
set_option maxRecDepth 100000 in
set_option maxHeartbeats 4000000 in
theorem T_Mo_check : am_T am_Y am_cl am_Gw am_mi 148 b_Mo_check := by
  intro E A p l e s m args below meth c Rt X hr
  refine List.forall_mem_cons.mpr ⟨am_aload_n_ok (k := 0) X (by decide +kernel), ?_⟩
  refine List.forall_mem_cons.mpr ⟨am_iconst_ok X (by decide +kernel), ?_⟩
  refine List.forall_mem_cons.mpr ⟨am_put_ok (C := R_Mo) (T := F_Mo) (N := 13) (idx := 39) X rfl (by decide) (fun w h => List.mem_cons_of_mem _ (u_Mo w h)) t_Mo_ok n_Mo rfl (by decide +kernel) (List.mem_cons_of_mem _ w_Mo_39) (by decide +kernel), ?_⟩
  refine List.forall_mem_cons.mpr ⟨am_iconst_ok X (by decide +kernel), ?_⟩
  refine List.forall_mem_cons.mpr ⟨am_ret_ok X hr (by decide +kernel), ?_⟩
  exact fun _ h => absurd h List.not_mem_nil
