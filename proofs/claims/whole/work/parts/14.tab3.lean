/-! printed: tables of the methods -/
abbrev b_De_inside : AT := [(0, am_ild 1 1), (1, am_ild 2 1), (2, am_callS 47 2), (5, am_ald 0 1), (6, am_callV am_Y 8 68 0), (9, am_if 1 15), (12, am_ic (-2) 2), (14, am_ret), (15, am_ald 0 1), (16, am_get am_Y 8 0), (19, am_ild 1 1), (20, am_ild 2 1), (21, am_callV am_Y 4 48 2), (24, am_ald 0 1), (25, am_get am_Y 8 4), (28, am_ic (60) 2), (30, am_callV am_Y 5 74 1), (33, am_ret)]
set_option maxRecDepth 100000 in
set_option maxHeartbeats 4000000 in
theorem T_De_inside : am_T am_Y am_cl am_Gw am_mi 75 b_De_inside := by
  intro E A p l e s m args below meth c Rt X hr
  refine List.forall_mem_cons.mpr ⟨am_iload_n_ok (k := 1) X (by decide +kernel), ?_⟩
  refine List.forall_mem_cons.mpr ⟨am_iload_n_ok (k := 2) X (by decide +kernel), ?_⟩
  refine List.forall_mem_cons.mpr ⟨am_callS_ok (idx := 151) X (am_GS m_De_151 v_De_requireInPlane.1 v_De_requireInPlane.2.1 v_De_requireInPlane.2.2) ⟨rfl, v_De_requireInPlaned⟩ ⟨by decide, by decide⟩ (by decide +kernel), ?_⟩
  refine List.forall_mem_cons.mpr ⟨am_aload_n_ok (k := 0) X (by decide +kernel), ?_⟩
  refine List.forall_mem_cons.mpr ⟨am_callV_ok (C := R_De) (T := F_De) (N := 7) (idx := 182) X rfl (am_GV m_De_182 v_De_isRouteSimple.1 v_De_isRouteSimple.2.1 v_De_isRouteSimple.2.2.1 v_De_isRouteSimple.2.2.2) ⟨rfl, v_De_isRouteSimpled⟩ ⟨by decide, by decide⟩ (Nat.zero_le _) (by decide +kernel), ?_⟩
  refine List.forall_mem_cons.mpr ⟨am_if_ne_ok (off := 6) X (by decide +kernel) (by decide), ?_⟩
  refine List.forall_mem_cons.mpr ⟨am_bipush_ok X (by decide +kernel) (by decide), ?_⟩
  refine List.forall_mem_cons.mpr ⟨am_ret_ok X hr (by decide +kernel), ?_⟩
  refine List.forall_mem_cons.mpr ⟨am_aload_n_ok (k := 0) X (by decide +kernel), ?_⟩
  refine List.forall_mem_cons.mpr ⟨am_get_ok (C := R_De) (T := F_De) (N := 7) (idx := 12) X rfl (by decide) (fun w h => List.mem_cons_of_mem _ (u_De w h)) (List.mem_cons_of_mem _ w_De_12) (by decide +kernel), ?_⟩
  refine List.forall_mem_cons.mpr ⟨am_iload_n_ok (k := 1) X (by decide +kernel), ?_⟩
  refine List.forall_mem_cons.mpr ⟨am_iload_n_ok (k := 2) X (by decide +kernel), ?_⟩
  refine List.forall_mem_cons.mpr ⟨am_callV_ok (C := R_Po) (T := F_Po) (N := 4) (idx := 154) X rfl (am_GV m_De_154 v_Po_ask.1 v_Po_ask.2.1 v_Po_ask.2.2.1 v_Po_ask.2.2.2) ⟨rfl, v_Po_askd⟩ ⟨by decide, by decide⟩ (Nat.zero_le _) (by decide +kernel), ?_⟩
  refine List.forall_mem_cons.mpr ⟨am_aload_n_ok (k := 0) X (by decide +kernel), ?_⟩
  refine List.forall_mem_cons.mpr ⟨am_get_ok (C := R_De) (T := F_De) (N := 7) (idx := 44) X rfl (by decide) (fun w h => List.mem_cons_of_mem _ (u_De w h)) (List.mem_cons_of_mem _ w_De_44) (by decide +kernel), ?_⟩
  refine List.forall_mem_cons.mpr ⟨am_bipush_ok X (by decide +kernel) (by decide), ?_⟩
  refine List.forall_mem_cons.mpr ⟨am_callV_ok (C := R_Ro) (T := F_Ro) (N := 4) (idx := 189) X rfl (am_GV m_De_189 v_Ro_holds.1 v_Ro_holds.2.1 v_Ro_holds.2.2.1 v_Ro_holds.2.2.2) ⟨rfl, v_Ro_holdsd⟩ ⟨by decide, by decide⟩ (Nat.zero_le _) (by decide +kernel), ?_⟩
  refine List.forall_mem_cons.mpr ⟨am_ret_ok X hr (by decide +kernel), ?_⟩
  exact fun _ h => absurd h List.not_mem_nil
abbrev b_Tr_before : AT := [(0, am_ild 1 1), (1, am_if 5 10), (4, am_ild 1 1), (5, am_ic 1 1), (6, am_isub), (7, am_goto 16), (10, am_ald 0 1), (11, am_get am_Y 6 6), (14, am_ic 1 1), (15, am_isub), (16, am_ret)]
set_option maxRecDepth 100000 in
set_option maxHeartbeats 4000000 in
theorem T_Tr_before : am_T am_Y am_cl am_Gw am_mi 76 b_Tr_before := by
  intro E A p l e s m args below meth c Rt X hr
  refine List.forall_mem_cons.mpr ⟨am_iload_n_ok (k := 1) X (by decide +kernel), ?_⟩
  refine List.forall_mem_cons.mpr ⟨am_if_le_ok (off := 9) X (by decide +kernel) (by decide), ?_⟩
  refine List.forall_mem_cons.mpr ⟨am_iload_n_ok (k := 1) X (by decide +kernel), ?_⟩
  refine List.forall_mem_cons.mpr ⟨am_iconst_ok X (by decide +kernel), ?_⟩
  refine List.forall_mem_cons.mpr ⟨am_isub_ok X (by decide +kernel), ?_⟩
  refine List.forall_mem_cons.mpr ⟨am_goto_ok (off := 9) X (by decide +kernel) (by decide), ?_⟩
  refine List.forall_mem_cons.mpr ⟨am_aload_n_ok (k := 0) X (by decide +kernel), ?_⟩
  refine List.forall_mem_cons.mpr ⟨am_get_ok (C := R_Tr) (T := F_Tr) (N := 8) (idx := 25) X rfl (by decide) (fun w h => List.mem_cons_of_mem _ (u_Tr w h)) (List.mem_cons_of_mem _ w_Tr_25) (by decide +kernel), ?_⟩
  refine List.forall_mem_cons.mpr ⟨am_iconst_ok X (by decide +kernel), ?_⟩
  refine List.forall_mem_cons.mpr ⟨am_isub_ok X (by decide +kernel), ?_⟩
  refine List.forall_mem_cons.mpr ⟨am_ret_ok X hr (by decide +kernel), ?_⟩
  exact fun _ h => absurd h List.not_mem_nil
abbrev b_Tr_behind : AT := [(0, am_ild 1 1), (1, am_ic 1 1), (2, am_iadd), (3, am_ald 0 1), (4, am_get am_Y 6 6), (7, am_icmp 3 16), (10, am_ild 1 1), (11, am_ic 1 1), (12, am_iadd), (13, am_goto 17), (16, am_ic 0 1), (17, am_ret)]
set_option maxRecDepth 100000 in
set_option maxHeartbeats 4000000 in
theorem T_Tr_behind : am_T am_Y am_cl am_Gw am_mi 77 b_Tr_behind := by
  intro E A p l e s m args below meth c Rt X hr
  refine List.forall_mem_cons.mpr ⟨am_iload_n_ok (k := 1) X (by decide +kernel), ?_⟩
  refine List.forall_mem_cons.mpr ⟨am_iconst_ok X (by decide +kernel), ?_⟩
  refine List.forall_mem_cons.mpr ⟨am_iadd_ok X (by decide +kernel), ?_⟩
  refine List.forall_mem_cons.mpr ⟨am_aload_n_ok (k := 0) X (by decide +kernel), ?_⟩
  refine List.forall_mem_cons.mpr ⟨am_get_ok (C := R_Tr) (T := F_Tr) (N := 8) (idx := 25) X rfl (by decide) (fun w h => List.mem_cons_of_mem _ (u_Tr w h)) (List.mem_cons_of_mem _ w_Tr_25) (by decide +kernel), ?_⟩
  refine List.forall_mem_cons.mpr ⟨am_icmp_ge_ok (off := 9) X (by decide +kernel) (by decide), ?_⟩
  refine List.forall_mem_cons.mpr ⟨am_iload_n_ok (k := 1) X (by decide +kernel), ?_⟩
  refine List.forall_mem_cons.mpr ⟨am_iconst_ok X (by decide +kernel), ?_⟩
  refine List.forall_mem_cons.mpr ⟨am_iadd_ok X (by decide +kernel), ?_⟩
  refine List.forall_mem_cons.mpr ⟨am_goto_ok (off := 4) X (by decide +kernel) (by decide), ?_⟩
  refine List.forall_mem_cons.mpr ⟨am_iconst_ok X (by decide +kernel), ?_⟩
  refine List.forall_mem_cons.mpr ⟨am_ret_ok X hr (by decide +kernel), ?_⟩
  exact fun _ h => absurd h List.not_mem_nil
abbrev b_Tr_turnInwards : AT := [(0, am_ald 0 1), (1, am_get am_Y 6 7), (4, am_i2l), (5, am_ald 0 1), (6, am_get am_Y 6 0), (9, am_ild 1 1), (10, am_ild 2 1), (11, am_ild 3 1), (12, am_callV am_Y 4 11 3), (15, am_lmul), (16, am_lret)]
set_option maxRecDepth 100000 in
set_option maxHeartbeats 4000000 in
theorem T_Tr_turnInwards : am_T am_Y am_cl am_Gw am_mi 78 b_Tr_turnInwards := by
  intro E A p l e s m args below meth c Rt X hr
  refine List.forall_mem_cons.mpr ⟨am_aload_n_ok (k := 0) X (by decide +kernel), ?_⟩
  refine List.forall_mem_cons.mpr ⟨am_get_ok (C := R_Tr) (T := F_Tr) (N := 8) (idx := 28) X rfl (by decide) (fun w h => List.mem_cons_of_mem _ (u_Tr w h)) (List.mem_cons_of_mem _ w_Tr_28) (by decide +kernel), ?_⟩
  refine List.forall_mem_cons.mpr ⟨am_i2l_ok X (by decide +kernel), ?_⟩
  refine List.forall_mem_cons.mpr ⟨am_aload_n_ok (k := 0) X (by decide +kernel), ?_⟩
  refine List.forall_mem_cons.mpr ⟨am_get_ok (C := R_Tr) (T := F_Tr) (N := 8) (idx := 31) X rfl (by decide) (fun w h => List.mem_cons_of_mem _ (u_Tr w h)) (List.mem_cons_of_mem _ w_Tr_31) (by decide +kernel), ?_⟩
  refine List.forall_mem_cons.mpr ⟨am_iload_n_ok (k := 1) X (by decide +kernel), ?_⟩
  refine List.forall_mem_cons.mpr ⟨am_iload_n_ok (k := 2) X (by decide +kernel), ?_⟩
  refine List.forall_mem_cons.mpr ⟨am_iload_n_ok (k := 3) X (by decide +kernel), ?_⟩
  refine List.forall_mem_cons.mpr ⟨am_callV_ok (C := R_Po) (T := F_Po) (N := 4) (idx := 84) X rfl (am_GV m_Tr_84 v_Po_crossProduct.1 v_Po_crossProduct.2.1 v_Po_crossProduct.2.2.1 v_Po_crossProduct.2.2.2) ⟨rfl, v_Po_crossProductd⟩ ⟨by decide, by decide⟩ (Nat.zero_le _) (by decide +kernel), ?_⟩
  refine List.forall_mem_cons.mpr ⟨am_lmul_ok X (by decide +kernel), ?_⟩
  refine List.forall_mem_cons.mpr ⟨am_lret_ok X hr (by decide +kernel), ?_⟩
  exact fun _ h => absurd h List.not_mem_nil
abbrev b_Tr_isInTriangle : AT := [(0, am_ald 0 1), (1, am_get am_Y 6 7), (4, am_i2l), (5, am_ald 0 1), (6, am_get am_Y 6 0), (9, am_ild 1 1), (10, am_ild 2 1), (11, am_ild 4 2), (13, am_callV am_Y 4 11 3), (16, am_lmul), (17, am_lc 0 1), (18, am_lcmp 2 70), (22, am_ald 0 1), (23, am_get am_Y 6 7), (26, am_i2l), (27, am_ald 0 1), (28, am_get am_Y 6 0), (31, am_ild 2 1), (32, am_ild 3 1), (33, am_ild 4 2), (35, am_callV am_Y 4 11 3), (38, am_lmul), (39, am_lc 0 1), (40, am_lcmp 2 70), (44, am_ald 0 1), (45, am_get am_Y 6 7), (48, am_i2l), (49, am_ald 0 1), (50, am_get am_Y 6 0), (53, am_ild 3 1), (54, am_ild 1 1), (55, am_ild 4 2), (57, am_callV am_Y 4 11 3), (60, am_lmul), (61, am_lc 0 1), (62, am_lcmp 2 70), (66, am_ic 1 1), (67, am_goto 71), (70, am_ic 0 1), (71, am_zret)]
set_option maxRecDepth 100000 in
set_option maxHeartbeats 4000000 in
theorem T_Tr_isInTriangle : am_T am_Y am_cl am_Gw am_mi 79 b_Tr_isInTriangle := by
  intro E A p l e s m args below meth c Rt X hr
  refine List.forall_mem_cons.mpr ⟨am_aload_n_ok (k := 0) X (by decide +kernel), ?_⟩
  refine List.forall_mem_cons.mpr ⟨am_get_ok (C := R_Tr) (T := F_Tr) (N := 8) (idx := 28) X rfl (by decide) (fun w h => List.mem_cons_of_mem _ (u_Tr w h)) (List.mem_cons_of_mem _ w_Tr_28) (by decide +kernel), ?_⟩
  refine List.forall_mem_cons.mpr ⟨am_i2l_ok X (by decide +kernel), ?_⟩
  refine List.forall_mem_cons.mpr ⟨am_aload_n_ok (k := 0) X (by decide +kernel), ?_⟩
  refine List.forall_mem_cons.mpr ⟨am_get_ok (C := R_Tr) (T := F_Tr) (N := 8) (idx := 31) X rfl (by decide) (fun w h => List.mem_cons_of_mem _ (u_Tr w h)) (List.mem_cons_of_mem _ w_Tr_31) (by decide +kernel), ?_⟩
  refine List.forall_mem_cons.mpr ⟨am_iload_n_ok (k := 1) X (by decide +kernel), ?_⟩
  refine List.forall_mem_cons.mpr ⟨am_iload_n_ok (k := 2) X (by decide +kernel), ?_⟩
  refine List.forall_mem_cons.mpr ⟨am_iload_ok X (by decide +kernel), ?_⟩
  refine List.forall_mem_cons.mpr ⟨am_callV_ok (C := R_Po) (T := F_Po) (N := 4) (idx := 84) X rfl (am_GV m_Tr_84 v_Po_crossProduct.1 v_Po_crossProduct.2.1 v_Po_crossProduct.2.2.1 v_Po_crossProduct.2.2.2) ⟨rfl, v_Po_crossProductd⟩ ⟨by decide, by decide⟩ (Nat.zero_le _) (by decide +kernel), ?_⟩
  refine List.forall_mem_cons.mpr ⟨am_lmul_ok X (by decide +kernel), ?_⟩
  refine List.forall_mem_cons.mpr ⟨am_lconst_ok (n := 0) X (by decide +kernel), ?_⟩
  refine List.forall_mem_cons.mpr ⟨am_lcmp_lt_ok (off := 51) X (by decide +kernel) (by decide +kernel) (by decide), ?_⟩
  refine List.forall_mem_cons.mpr ⟨am_aload_n_ok (k := 0) X (by decide +kernel), ?_⟩
  refine List.forall_mem_cons.mpr ⟨am_get_ok (C := R_Tr) (T := F_Tr) (N := 8) (idx := 28) X rfl (by decide) (fun w h => List.mem_cons_of_mem _ (u_Tr w h)) (List.mem_cons_of_mem _ w_Tr_28) (by decide +kernel), ?_⟩
  refine List.forall_mem_cons.mpr ⟨am_i2l_ok X (by decide +kernel), ?_⟩
  refine List.forall_mem_cons.mpr ⟨am_aload_n_ok (k := 0) X (by decide +kernel), ?_⟩
  refine List.forall_mem_cons.mpr ⟨am_get_ok (C := R_Tr) (T := F_Tr) (N := 8) (idx := 31) X rfl (by decide) (fun w h => List.mem_cons_of_mem _ (u_Tr w h)) (List.mem_cons_of_mem _ w_Tr_31) (by decide +kernel), ?_⟩
  refine List.forall_mem_cons.mpr ⟨am_iload_n_ok (k := 2) X (by decide +kernel), ?_⟩
  refine List.forall_mem_cons.mpr ⟨am_iload_n_ok (k := 3) X (by decide +kernel), ?_⟩
  refine List.forall_mem_cons.mpr ⟨am_iload_ok X (by decide +kernel), ?_⟩
  refine List.forall_mem_cons.mpr ⟨am_callV_ok (C := R_Po) (T := F_Po) (N := 4) (idx := 84) X rfl (am_GV m_Tr_84 v_Po_crossProduct.1 v_Po_crossProduct.2.1 v_Po_crossProduct.2.2.1 v_Po_crossProduct.2.2.2) ⟨rfl, v_Po_crossProductd⟩ ⟨by decide, by decide⟩ (Nat.zero_le _) (by decide +kernel), ?_⟩
  refine List.forall_mem_cons.mpr ⟨am_lmul_ok X (by decide +kernel), ?_⟩
  refine List.forall_mem_cons.mpr ⟨am_lconst_ok (n := 0) X (by decide +kernel), ?_⟩
  refine List.forall_mem_cons.mpr ⟨am_lcmp_lt_ok (off := 29) X (by decide +kernel) (by decide +kernel) (by decide), ?_⟩
  refine List.forall_mem_cons.mpr ⟨am_aload_n_ok (k := 0) X (by decide +kernel), ?_⟩
  refine List.forall_mem_cons.mpr ⟨am_get_ok (C := R_Tr) (T := F_Tr) (N := 8) (idx := 28) X rfl (by decide) (fun w h => List.mem_cons_of_mem _ (u_Tr w h)) (List.mem_cons_of_mem _ w_Tr_28) (by decide +kernel), ?_⟩
  refine List.forall_mem_cons.mpr ⟨am_i2l_ok X (by decide +kernel), ?_⟩
  refine List.forall_mem_cons.mpr ⟨am_aload_n_ok (k := 0) X (by decide +kernel), ?_⟩
  refine List.forall_mem_cons.mpr ⟨am_get_ok (C := R_Tr) (T := F_Tr) (N := 8) (idx := 31) X rfl (by decide) (fun w h => List.mem_cons_of_mem _ (u_Tr w h)) (List.mem_cons_of_mem _ w_Tr_31) (by decide +kernel), ?_⟩
  refine List.forall_mem_cons.mpr ⟨am_iload_n_ok (k := 3) X (by decide +kernel), ?_⟩
  refine List.forall_mem_cons.mpr ⟨am_iload_n_ok (k := 1) X (by decide +kernel), ?_⟩
  refine List.forall_mem_cons.mpr ⟨am_iload_ok X (by decide +kernel), ?_⟩
  refine List.forall_mem_cons.mpr ⟨am_callV_ok (C := R_Po) (T := F_Po) (N := 4) (idx := 84) X rfl (am_GV m_Tr_84 v_Po_crossProduct.1 v_Po_crossProduct.2.1 v_Po_crossProduct.2.2.1 v_Po_crossProduct.2.2.2) ⟨rfl, v_Po_crossProductd⟩ ⟨by decide, by decide⟩ (Nat.zero_le _) (by decide +kernel), ?_⟩
  refine List.forall_mem_cons.mpr ⟨am_lmul_ok X (by decide +kernel), ?_⟩
  refine List.forall_mem_cons.mpr ⟨am_lconst_ok (n := 0) X (by decide +kernel), ?_⟩
  refine List.forall_mem_cons.mpr ⟨am_lcmp_lt_ok (off := 7) X (by decide +kernel) (by decide +kernel) (by decide), ?_⟩
  refine List.forall_mem_cons.mpr ⟨am_iconst_ok X (by decide +kernel), ?_⟩
  refine List.forall_mem_cons.mpr ⟨am_goto_ok (off := 4) X (by decide +kernel) (by decide), ?_⟩
  refine List.forall_mem_cons.mpr ⟨am_iconst_ok X (by decide +kernel), ?_⟩
  refine List.forall_mem_cons.mpr ⟨am_zret_ok X hr (by decide +kernel), ?_⟩
  exact fun _ h => absurd h List.not_mem_nil
abbrev b_Tr_isEar : AT := [(0, am_ald 0 1), (1, am_ild 1 1), (2, am_callV am_Y 6 76 1), (5, am_ist 2 1), (6, am_ald 0 1), (7, am_ild 1 1), (8, am_callV am_Y 6 77 1), (11, am_ist 3 1), (12, am_ald 0 1), (13, am_get am_Y 6 1), (16, am_get am_Y 5 1), (19, am_ald 0 1), (20, am_get am_Y 6 5), (23, am_ild 2 1), (24, am_iald am_Y), (25, am_iald am_Y), (26, am_ist 4 2), (28, am_ald 0 1), (29, am_get am_Y 6 1), (32, am_get am_Y 5 1), (35, am_ald 0 1), (36, am_get am_Y 6 5), (39, am_ild 1 1), (40, am_iald am_Y), (41, am_iald am_Y), (42, am_ist 5 2), (44, am_ald 0 1), (45, am_get am_Y 6 1), (48, am_get am_Y 5 1), (51, am_ald 0 1), (52, am_get am_Y 6 5), (55, am_ild 3 1), (56, am_iald am_Y), (57, am_iald am_Y), (58, am_ist 6 2), (60, am_ald 0 1), (61, am_ild 4 2), (63, am_ild 5 2), (65, am_ild 6 2), (67, am_callV am_Y 6 78 3), (70, am_lc 0 1), (71, am_lcmp 4 77), (75, am_ic 0 1), (76, am_zret), (77, am_ic 0 1), (78, am_ist 7 2), (80, am_ild 7 2), (82, am_ald 0 1), (83, am_get am_Y 6 6), (86, am_icmp 3 143), (89, am_ild 7 2), (91, am_ild 2 1), (92, am_icmp 0 137), (95, am_ild 7 2), (97, am_ild 1 1), (98, am_icmp 0 137), (101, am_ild 7 2), (103, am_ild 3 1), (104, am_icmp 0 137), (107, am_ald 0 1), (108, am_ild 4 2), (110, am_ild 5 2), (112, am_ild 6 2), (114, am_ald 0 1), (115, am_get am_Y 6 1), (118, am_get am_Y 5 1), (121, am_ald 0 1), (122, am_get am_Y 6 5), (125, am_ild 7 2), (127, am_iald am_Y), (128, am_iald am_Y), (129, am_callV am_Y 6 79 4), (132, am_if 0 137), (135, am_ic 0 1), (136, am_zret), (137, am_inc 7 (1)), (140, am_goto 80), (143, am_ic 1 1), (144, am_zret)]
set_option maxRecDepth 100000 in
set_option maxHeartbeats 4000000 in
theorem T_Tr_isEar : am_T am_Y am_cl am_Gw am_mi 80 b_Tr_isEar := by
  intro E A p l e s m args below meth c Rt X hr
  refine List.forall_mem_cons.mpr ⟨am_aload_n_ok (k := 0) X (by decide +kernel), ?_⟩
  refine List.forall_mem_cons.mpr ⟨am_iload_n_ok (k := 1) X (by decide +kernel), ?_⟩
  refine List.forall_mem_cons.mpr ⟨am_callV_ok (C := R_Tr) (T := F_Tr) (N := 8) (idx := 54) X rfl (am_GV m_Tr_54 v_Tr_before.1 v_Tr_before.2.1 v_Tr_before.2.2.1 v_Tr_before.2.2.2) ⟨rfl, v_Tr_befored⟩ ⟨by decide, by decide⟩ (Nat.zero_le _) (by decide +kernel), ?_⟩
  refine List.forall_mem_cons.mpr ⟨am_istore_n_ok (k := 2) X (by decide) (by decide +kernel), ?_⟩
  refine List.forall_mem_cons.mpr ⟨am_aload_n_ok (k := 0) X (by decide +kernel), ?_⟩
  refine List.forall_mem_cons.mpr ⟨am_iload_n_ok (k := 1) X (by decide +kernel), ?_⟩
  refine List.forall_mem_cons.mpr ⟨am_callV_ok (C := R_Tr) (T := F_Tr) (N := 8) (idx := 58) X rfl (am_GV m_Tr_58 v_Tr_behind.1 v_Tr_behind.2.1 v_Tr_behind.2.2.1 v_Tr_behind.2.2.2) ⟨rfl, v_Tr_behindd⟩ ⟨by decide, by decide⟩ (Nat.zero_le _) (by decide +kernel), ?_⟩
  refine List.forall_mem_cons.mpr ⟨am_istore_n_ok (k := 3) X (by decide) (by decide +kernel), ?_⟩
  refine List.forall_mem_cons.mpr ⟨am_aload_n_ok (k := 0) X (by decide +kernel), ?_⟩
  refine List.forall_mem_cons.mpr ⟨am_get_ok (C := R_Tr) (T := F_Tr) (N := 8) (idx := 35) X rfl (by decide) (fun w h => List.mem_cons_of_mem _ (u_Tr w h)) (List.mem_cons_of_mem _ w_Tr_35) (by decide +kernel), ?_⟩
  refine List.forall_mem_cons.mpr ⟨am_get_ok (C := R_Ro) (T := F_Ro) (N := 4) (idx := 73) X rfl (by decide) (fun w h => List.mem_cons_of_mem _ (u_Ro w h)) (List.mem_cons_of_mem _ w_Tr_73) (by decide +kernel), ?_⟩
  refine List.forall_mem_cons.mpr ⟨am_aload_n_ok (k := 0) X (by decide +kernel), ?_⟩
  refine List.forall_mem_cons.mpr ⟨am_get_ok (C := R_Tr) (T := F_Tr) (N := 8) (idx := 22) X rfl (by decide) (fun w h => List.mem_cons_of_mem _ (u_Tr w h)) (List.mem_cons_of_mem _ w_Tr_22) (by decide +kernel), ?_⟩
  refine List.forall_mem_cons.mpr ⟨am_iload_n_ok (k := 2) X (by decide +kernel), ?_⟩
  refine List.forall_mem_cons.mpr ⟨am_iald_ok X am_Y0 (by decide +kernel), ?_⟩
  refine List.forall_mem_cons.mpr ⟨am_iald_ok X am_Y0 (by decide +kernel), ?_⟩
  refine List.forall_mem_cons.mpr ⟨am_istore_ok X (by decide) (by decide +kernel), ?_⟩
  refine List.forall_mem_cons.mpr ⟨am_aload_n_ok (k := 0) X (by decide +kernel), ?_⟩
  refine List.forall_mem_cons.mpr ⟨am_get_ok (C := R_Tr) (T := F_Tr) (N := 8) (idx := 35) X rfl (by decide) (fun w h => List.mem_cons_of_mem _ (u_Tr w h)) (List.mem_cons_of_mem _ w_Tr_35) (by decide +kernel), ?_⟩
  refine List.forall_mem_cons.mpr ⟨am_get_ok (C := R_Ro) (T := F_Ro) (N := 4) (idx := 73) X rfl (by decide) (fun w h => List.mem_cons_of_mem _ (u_Ro w h)) (List.mem_cons_of_mem _ w_Tr_73) (by decide +kernel), ?_⟩
  refine List.forall_mem_cons.mpr ⟨am_aload_n_ok (k := 0) X (by decide +kernel), ?_⟩
  refine List.forall_mem_cons.mpr ⟨am_get_ok (C := R_Tr) (T := F_Tr) (N := 8) (idx := 22) X rfl (by decide) (fun w h => List.mem_cons_of_mem _ (u_Tr w h)) (List.mem_cons_of_mem _ w_Tr_22) (by decide +kernel), ?_⟩
  refine List.forall_mem_cons.mpr ⟨am_iload_n_ok (k := 1) X (by decide +kernel), ?_⟩
  refine List.forall_mem_cons.mpr ⟨am_iald_ok X am_Y0 (by decide +kernel), ?_⟩
  refine List.forall_mem_cons.mpr ⟨am_iald_ok X am_Y0 (by decide +kernel), ?_⟩
  refine List.forall_mem_cons.mpr ⟨am_istore_ok X (by decide) (by decide +kernel), ?_⟩
  refine List.forall_mem_cons.mpr ⟨am_aload_n_ok (k := 0) X (by decide +kernel), ?_⟩
  refine List.forall_mem_cons.mpr ⟨am_get_ok (C := R_Tr) (T := F_Tr) (N := 8) (idx := 35) X rfl (by decide) (fun w h => List.mem_cons_of_mem _ (u_Tr w h)) (List.mem_cons_of_mem _ w_Tr_35) (by decide +kernel), ?_⟩
  refine List.forall_mem_cons.mpr ⟨am_get_ok (C := R_Ro) (T := F_Ro) (N := 4) (idx := 73) X rfl (by decide) (fun w h => List.mem_cons_of_mem _ (u_Ro w h)) (List.mem_cons_of_mem _ w_Tr_73) (by decide +kernel), ?_⟩
  refine List.forall_mem_cons.mpr ⟨am_aload_n_ok (k := 0) X (by decide +kernel), ?_⟩
  refine List.forall_mem_cons.mpr ⟨am_get_ok (C := R_Tr) (T := F_Tr) (N := 8) (idx := 22) X rfl (by decide) (fun w h => List.mem_cons_of_mem _ (u_Tr w h)) (List.mem_cons_of_mem _ w_Tr_22) (by decide +kernel), ?_⟩
  refine List.forall_mem_cons.mpr ⟨am_iload_n_ok (k := 3) X (by decide +kernel), ?_⟩
  refine List.forall_mem_cons.mpr ⟨am_iald_ok X am_Y0 (by decide +kernel), ?_⟩
  refine List.forall_mem_cons.mpr ⟨am_iald_ok X am_Y0 (by decide +kernel), ?_⟩
  refine List.forall_mem_cons.mpr ⟨am_istore_ok X (by decide) (by decide +kernel), ?_⟩
  refine List.forall_mem_cons.mpr ⟨am_aload_n_ok (k := 0) X (by decide +kernel), ?_⟩
  refine List.forall_mem_cons.mpr ⟨am_iload_ok X (by decide +kernel), ?_⟩
  refine List.forall_mem_cons.mpr ⟨am_iload_ok X (by decide +kernel), ?_⟩
  refine List.forall_mem_cons.mpr ⟨am_iload_ok X (by decide +kernel), ?_⟩
  refine List.forall_mem_cons.mpr ⟨am_callV_ok (C := R_Tr) (T := F_Tr) (N := 8) (idx := 76) X rfl (am_GV m_Tr_76 v_Tr_turnInwards.1 v_Tr_turnInwards.2.1 v_Tr_turnInwards.2.2.1 v_Tr_turnInwards.2.2.2) ⟨rfl, v_Tr_turnInwardsd⟩ ⟨by decide, by decide⟩ (Nat.zero_le _) (by decide +kernel), ?_⟩
  refine List.forall_mem_cons.mpr ⟨am_lconst_ok (n := 0) X (by decide +kernel), ?_⟩
  refine List.forall_mem_cons.mpr ⟨am_lcmp_gt_ok (off := 5) X (by decide +kernel) (by decide +kernel) (by decide), ?_⟩
  refine List.forall_mem_cons.mpr ⟨am_iconst_ok X (by decide +kernel), ?_⟩
  refine List.forall_mem_cons.mpr ⟨am_zret_ok X hr (by decide +kernel), ?_⟩
  refine List.forall_mem_cons.mpr ⟨am_iconst_ok X (by decide +kernel), ?_⟩
  refine List.forall_mem_cons.mpr ⟨am_istore_ok X (by decide) (by decide +kernel), ?_⟩
  refine List.forall_mem_cons.mpr ⟨am_iload_ok X (by decide +kernel), ?_⟩
  refine List.forall_mem_cons.mpr ⟨am_aload_n_ok (k := 0) X (by decide +kernel), ?_⟩
  refine List.forall_mem_cons.mpr ⟨am_get_ok (C := R_Tr) (T := F_Tr) (N := 8) (idx := 25) X rfl (by decide) (fun w h => List.mem_cons_of_mem _ (u_Tr w h)) (List.mem_cons_of_mem _ w_Tr_25) (by decide +kernel), ?_⟩
  refine List.forall_mem_cons.mpr ⟨am_icmp_ge_ok (off := 57) X (by decide +kernel) (by decide), ?_⟩
  refine List.forall_mem_cons.mpr ⟨am_iload_ok X (by decide +kernel), ?_⟩
  refine List.forall_mem_cons.mpr ⟨am_iload_n_ok (k := 2) X (by decide +kernel), ?_⟩
  refine List.forall_mem_cons.mpr ⟨am_icmp_eq_ok (off := 45) X (by decide +kernel) (by decide), ?_⟩
  refine List.forall_mem_cons.mpr ⟨am_iload_ok X (by decide +kernel), ?_⟩
  refine List.forall_mem_cons.mpr ⟨am_iload_n_ok (k := 1) X (by decide +kernel), ?_⟩
  refine List.forall_mem_cons.mpr ⟨am_icmp_eq_ok (off := 39) X (by decide +kernel) (by decide), ?_⟩
  refine List.forall_mem_cons.mpr ⟨am_iload_ok X (by decide +kernel), ?_⟩
  refine List.forall_mem_cons.mpr ⟨am_iload_n_ok (k := 3) X (by decide +kernel), ?_⟩
  refine List.forall_mem_cons.mpr ⟨am_icmp_eq_ok (off := 33) X (by decide +kernel) (by decide), ?_⟩
  refine List.forall_mem_cons.mpr ⟨am_aload_n_ok (k := 0) X (by decide +kernel), ?_⟩
  refine List.forall_mem_cons.mpr ⟨am_iload_ok X (by decide +kernel), ?_⟩
  refine List.forall_mem_cons.mpr ⟨am_iload_ok X (by decide +kernel), ?_⟩
  refine List.forall_mem_cons.mpr ⟨am_iload_ok X (by decide +kernel), ?_⟩
  refine List.forall_mem_cons.mpr ⟨am_aload_n_ok (k := 0) X (by decide +kernel), ?_⟩
  refine List.forall_mem_cons.mpr ⟨am_get_ok (C := R_Tr) (T := F_Tr) (N := 8) (idx := 35) X rfl (by decide) (fun w h => List.mem_cons_of_mem _ (u_Tr w h)) (List.mem_cons_of_mem _ w_Tr_35) (by decide +kernel), ?_⟩
  refine List.forall_mem_cons.mpr ⟨am_get_ok (C := R_Ro) (T := F_Ro) (N := 4) (idx := 73) X rfl (by decide) (fun w h => List.mem_cons_of_mem _ (u_Ro w h)) (List.mem_cons_of_mem _ w_Tr_73) (by decide +kernel), ?_⟩
  refine List.forall_mem_cons.mpr ⟨am_aload_n_ok (k := 0) X (by decide +kernel), ?_⟩
  refine List.forall_mem_cons.mpr ⟨am_get_ok (C := R_Tr) (T := F_Tr) (N := 8) (idx := 22) X rfl (by decide) (fun w h => List.mem_cons_of_mem _ (u_Tr w h)) (List.mem_cons_of_mem _ w_Tr_22) (by decide +kernel), ?_⟩
  refine List.forall_mem_cons.mpr ⟨am_iload_ok X (by decide +kernel), ?_⟩
  refine List.forall_mem_cons.mpr ⟨am_iald_ok X am_Y0 (by decide +kernel), ?_⟩
  refine List.forall_mem_cons.mpr ⟨am_iald_ok X am_Y0 (by decide +kernel), ?_⟩
  refine List.forall_mem_cons.mpr ⟨am_callV_ok (C := R_Tr) (T := F_Tr) (N := 8) (idx := 80) X rfl (am_GV m_Tr_80 v_Tr_isInTriangle.1 v_Tr_isInTriangle.2.1 v_Tr_isInTriangle.2.2.1 v_Tr_isInTriangle.2.2.2) ⟨rfl, v_Tr_isInTriangled⟩ ⟨by decide, by decide⟩ (Nat.zero_le _) (by decide +kernel), ?_⟩
  refine List.forall_mem_cons.mpr ⟨am_if_eq_ok (off := 5) X (by decide +kernel) (by decide), ?_⟩
  refine List.forall_mem_cons.mpr ⟨am_iconst_ok X (by decide +kernel), ?_⟩
  refine List.forall_mem_cons.mpr ⟨am_zret_ok X hr (by decide +kernel), ?_⟩
  refine List.forall_mem_cons.mpr ⟨am_iinc_ok X (by decide) (by decide +kernel), ?_⟩
  refine List.forall_mem_cons.mpr ⟨am_goto_ok (off := -60) X (by decide +kernel) (by decide), ?_⟩
  refine List.forall_mem_cons.mpr ⟨am_iconst_ok X (by decide +kernel), ?_⟩
  refine List.forall_mem_cons.mpr ⟨am_zret_ok X hr (by decide +kernel), ?_⟩
  exact fun _ h => absurd h List.not_mem_nil
abbrev b_Tr_firstEar : AT := [(0, am_ald 0 1), (1, am_get am_Y 6 6), (4, am_ic 1 1), (5, am_isub), (6, am_ist 1 1), (7, am_ic 0 1), (8, am_ist 2 1), (9, am_ild 2 1), (10, am_ild 1 1), (11, am_icmp 3 30), (14, am_ald 0 1), (15, am_ild 2 1), (16, am_callV am_Y 6 80 1), (19, am_if 0 24), (22, am_ild 2 1), (23, am_ret), (24, am_inc 2 (1)), (27, am_goto 9), (30, am_ild 1 1), (31, am_ret)]
set_option maxRecDepth 100000 in
set_option maxHeartbeats 4000000 in
theorem T_Tr_firstEar : am_T am_Y am_cl am_Gw am_mi 81 b_Tr_firstEar := by
  intro E A p l e s m args below meth c Rt X hr
  refine List.forall_mem_cons.mpr ⟨am_aload_n_ok (k := 0) X (by decide +kernel), ?_⟩
  refine List.forall_mem_cons.mpr ⟨am_get_ok (C := R_Tr) (T := F_Tr) (N := 8) (idx := 25) X rfl (by decide) (fun w h => List.mem_cons_of_mem _ (u_Tr w h)) (List.mem_cons_of_mem _ w_Tr_25) (by decide +kernel), ?_⟩
  refine List.forall_mem_cons.mpr ⟨am_iconst_ok X (by decide +kernel), ?_⟩
  refine List.forall_mem_cons.mpr ⟨am_isub_ok X (by decide +kernel), ?_⟩
  refine List.forall_mem_cons.mpr ⟨am_istore_n_ok (k := 1) X (by decide) (by decide +kernel), ?_⟩
  refine List.forall_mem_cons.mpr ⟨am_iconst_ok X (by decide +kernel), ?_⟩
  refine List.forall_mem_cons.mpr ⟨am_istore_n_ok (k := 2) X (by decide) (by decide +kernel), ?_⟩
  refine List.forall_mem_cons.mpr ⟨am_iload_n_ok (k := 2) X (by decide +kernel), ?_⟩
  refine List.forall_mem_cons.mpr ⟨am_iload_n_ok (k := 1) X (by decide +kernel), ?_⟩
  refine List.forall_mem_cons.mpr ⟨am_icmp_ge_ok (off := 19) X (by decide +kernel) (by decide), ?_⟩
  refine List.forall_mem_cons.mpr ⟨am_aload_n_ok (k := 0) X (by decide +kernel), ?_⟩
  refine List.forall_mem_cons.mpr ⟨am_iload_n_ok (k := 2) X (by decide +kernel), ?_⟩
  refine List.forall_mem_cons.mpr ⟨am_callV_ok (C := R_Tr) (T := F_Tr) (N := 8) (idx := 69) X rfl (am_GV m_Tr_69 v_Tr_isEar.1 v_Tr_isEar.2.1 v_Tr_isEar.2.2.1 v_Tr_isEar.2.2.2) ⟨rfl, v_Tr_isEard⟩ ⟨by decide, by decide⟩ (Nat.zero_le _) (by decide +kernel), ?_⟩
  refine List.forall_mem_cons.mpr ⟨am_if_eq_ok (off := 5) X (by decide +kernel) (by decide), ?_⟩
  refine List.forall_mem_cons.mpr ⟨am_iload_n_ok (k := 2) X (by decide +kernel), ?_⟩
  refine List.forall_mem_cons.mpr ⟨am_ret_ok X hr (by decide +kernel), ?_⟩
  refine List.forall_mem_cons.mpr ⟨am_iinc_ok X (by decide) (by decide +kernel), ?_⟩
  refine List.forall_mem_cons.mpr ⟨am_goto_ok (off := -18) X (by decide +kernel) (by decide), ?_⟩
  refine List.forall_mem_cons.mpr ⟨am_iload_n_ok (k := 1) X (by decide +kernel), ?_⟩
  refine List.forall_mem_cons.mpr ⟨am_ret_ok X hr (by decide +kernel), ?_⟩
  exact fun _ h => absurd h List.not_mem_nil
abbrev b_Tr_keep : AT := [(0, am_ald 0 1), (1, am_get am_Y 6 2), (4, am_ald 0 1), (5, am_get am_Y 6 3), (8, am_ic (4096) 3), (11, am_ild 1 1), (12, am_imul), (13, am_ic (64) 2), (15, am_ild 2 1), (16, am_imul), (17, am_iadd), (18, am_ild 3 1), (19, am_iadd), (20, am_iast am_Y), (21, am_ald 0 1), (22, am_dup), (23, am_get am_Y 6 3), (26, am_ic 1 1), (27, am_iadd), (28, am_put am_Y 6 3), (31, am_vret)]
set_option maxRecDepth 100000 in
set_option maxHeartbeats 4000000 in
theorem T_Tr_keep : am_T am_Y am_cl am_Gw am_mi 82 b_Tr_keep := by
  intro E A p l e s m args below meth c Rt X hr
  refine List.forall_mem_cons.mpr ⟨am_aload_n_ok (k := 0) X (by decide +kernel), ?_⟩
  refine List.forall_mem_cons.mpr ⟨am_get_ok (C := R_Tr) (T := F_Tr) (N := 8) (idx := 9) X rfl (by decide) (fun w h => List.mem_cons_of_mem _ (u_Tr w h)) (List.mem_cons_of_mem _ w_Tr_9) (by decide +kernel), ?_⟩
  refine List.forall_mem_cons.mpr ⟨am_aload_n_ok (k := 0) X (by decide +kernel), ?_⟩
  refine List.forall_mem_cons.mpr ⟨am_get_ok (C := R_Tr) (T := F_Tr) (N := 8) (idx := 15) X rfl (by decide) (fun w h => List.mem_cons_of_mem _ (u_Tr w h)) (List.mem_cons_of_mem _ w_Tr_15) (by decide +kernel), ?_⟩
  refine List.forall_mem_cons.mpr ⟨am_sipush_ok X (by decide +kernel) (by decide), ?_⟩
  refine List.forall_mem_cons.mpr ⟨am_iload_n_ok (k := 1) X (by decide +kernel), ?_⟩
  refine List.forall_mem_cons.mpr ⟨am_imul_ok X (by decide +kernel), ?_⟩
  refine List.forall_mem_cons.mpr ⟨am_bipush_ok X (by decide +kernel) (by decide), ?_⟩
  refine List.forall_mem_cons.mpr ⟨am_iload_n_ok (k := 2) X (by decide +kernel), ?_⟩
  refine List.forall_mem_cons.mpr ⟨am_imul_ok X (by decide +kernel), ?_⟩
  refine List.forall_mem_cons.mpr ⟨am_iadd_ok X (by decide +kernel), ?_⟩
  refine List.forall_mem_cons.mpr ⟨am_iload_n_ok (k := 3) X (by decide +kernel), ?_⟩
  refine List.forall_mem_cons.mpr ⟨am_iadd_ok X (by decide +kernel), ?_⟩
  refine List.forall_mem_cons.mpr ⟨am_iast_ok X am_Y0 (by decide +kernel), ?_⟩
  refine List.forall_mem_cons.mpr ⟨am_aload_n_ok (k := 0) X (by decide +kernel), ?_⟩
  refine List.forall_mem_cons.mpr ⟨am_dup_ok X (by decide +kernel), ?_⟩
  refine List.forall_mem_cons.mpr ⟨am_get_ok (C := R_Tr) (T := F_Tr) (N := 8) (idx := 15) X rfl (by decide) (fun w h => List.mem_cons_of_mem _ (u_Tr w h)) (List.mem_cons_of_mem _ w_Tr_15) (by decide +kernel), ?_⟩
  refine List.forall_mem_cons.mpr ⟨am_iconst_ok X (by decide +kernel), ?_⟩
  refine List.forall_mem_cons.mpr ⟨am_iadd_ok X (by decide +kernel), ?_⟩
  refine List.forall_mem_cons.mpr ⟨am_put_ok (C := R_Tr) (T := F_Tr) (N := 8) (idx := 15) X rfl (by decide) (fun w h => List.mem_cons_of_mem _ (u_Tr w h)) t_Tr_ok n_Tr rfl (by decide +kernel) (List.mem_cons_of_mem _ w_Tr_15) (by decide +kernel), ?_⟩
  refine List.forall_mem_cons.mpr ⟨am_vret_ok X hr (by decide +kernel), ?_⟩
  exact fun _ h => absurd h List.not_mem_nil
abbrev b_Tr_remove : AT := [(0, am_ald 0 1), (1, am_dup), (2, am_get am_Y 6 6), (5, am_ic 1 1), (6, am_isub), (7, am_put am_Y 6 6), (10, am_ild 1 1), (11, am_ist 2 1), (12, am_ild 2 1), (13, am_ald 0 1), (14, am_get am_Y 6 6), (17, am_icmp 3 40), (20, am_ald 0 1), (21, am_get am_Y 6 5), (24, am_ild 2 1), (25, am_ald 0 1), (26, am_get am_Y 6 5), (29, am_ild 2 1), (30, am_ic 1 1), (31, am_iadd), (32, am_iald am_Y), (33, am_iast am_Y), (34, am_inc 2 (1)), (37, am_goto 12), (40, am_vret)]
set_option maxRecDepth 100000 in
set_option maxHeartbeats 4000000 in
theorem T_Tr_remove : am_T am_Y am_cl am_Gw am_mi 83 b_Tr_remove := by
  intro E A p l e s m args below meth c Rt X hr
  refine List.forall_mem_cons.mpr ⟨am_aload_n_ok (k := 0) X (by decide +kernel), ?_⟩
  refine List.forall_mem_cons.mpr ⟨am_dup_ok X (by decide +kernel), ?_⟩
  refine List.forall_mem_cons.mpr ⟨am_get_ok (C := R_Tr) (T := F_Tr) (N := 8) (idx := 25) X rfl (by decide) (fun w h => List.mem_cons_of_mem _ (u_Tr w h)) (List.mem_cons_of_mem _ w_Tr_25) (by decide +kernel), ?_⟩
  refine List.forall_mem_cons.mpr ⟨am_iconst_ok X (by decide +kernel), ?_⟩
  refine List.forall_mem_cons.mpr ⟨am_isub_ok X (by decide +kernel), ?_⟩
  refine List.forall_mem_cons.mpr ⟨am_put_ok (C := R_Tr) (T := F_Tr) (N := 8) (idx := 25) X rfl (by decide) (fun w h => List.mem_cons_of_mem _ (u_Tr w h)) t_Tr_ok n_Tr rfl (by decide +kernel) (List.mem_cons_of_mem _ w_Tr_25) (by decide +kernel), ?_⟩
  refine List.forall_mem_cons.mpr ⟨am_iload_n_ok (k := 1) X (by decide +kernel), ?_⟩
  refine List.forall_mem_cons.mpr ⟨am_istore_n_ok (k := 2) X (by decide) (by decide +kernel), ?_⟩
  refine List.forall_mem_cons.mpr ⟨am_iload_n_ok (k := 2) X (by decide +kernel), ?_⟩
  refine List.forall_mem_cons.mpr ⟨am_aload_n_ok (k := 0) X (by decide +kernel), ?_⟩
  refine List.forall_mem_cons.mpr ⟨am_get_ok (C := R_Tr) (T := F_Tr) (N := 8) (idx := 25) X rfl (by decide) (fun w h => List.mem_cons_of_mem _ (u_Tr w h)) (List.mem_cons_of_mem _ w_Tr_25) (by decide +kernel), ?_⟩
  refine List.forall_mem_cons.mpr ⟨am_icmp_ge_ok (off := 23) X (by decide +kernel) (by decide), ?_⟩
  refine List.forall_mem_cons.mpr ⟨am_aload_n_ok (k := 0) X (by decide +kernel), ?_⟩
  refine List.forall_mem_cons.mpr ⟨am_get_ok (C := R_Tr) (T := F_Tr) (N := 8) (idx := 22) X rfl (by decide) (fun w h => List.mem_cons_of_mem _ (u_Tr w h)) (List.mem_cons_of_mem _ w_Tr_22) (by decide +kernel), ?_⟩
  refine List.forall_mem_cons.mpr ⟨am_iload_n_ok (k := 2) X (by decide +kernel), ?_⟩
  refine List.forall_mem_cons.mpr ⟨am_aload_n_ok (k := 0) X (by decide +kernel), ?_⟩
  refine List.forall_mem_cons.mpr ⟨am_get_ok (C := R_Tr) (T := F_Tr) (N := 8) (idx := 22) X rfl (by decide) (fun w h => List.mem_cons_of_mem _ (u_Tr w h)) (List.mem_cons_of_mem _ w_Tr_22) (by decide +kernel), ?_⟩
  refine List.forall_mem_cons.mpr ⟨am_iload_n_ok (k := 2) X (by decide +kernel), ?_⟩
  refine List.forall_mem_cons.mpr ⟨am_iconst_ok X (by decide +kernel), ?_⟩
  refine List.forall_mem_cons.mpr ⟨am_iadd_ok X (by decide +kernel), ?_⟩
  refine List.forall_mem_cons.mpr ⟨am_iald_ok X am_Y0 (by decide +kernel), ?_⟩
  refine List.forall_mem_cons.mpr ⟨am_iast_ok X am_Y0 (by decide +kernel), ?_⟩
  refine List.forall_mem_cons.mpr ⟨am_iinc_ok X (by decide) (by decide +kernel), ?_⟩
  refine List.forall_mem_cons.mpr ⟨am_goto_ok (off := -25) X (by decide +kernel) (by decide), ?_⟩
  refine List.forall_mem_cons.mpr ⟨am_vret_ok X hr (by decide +kernel), ?_⟩
  exact fun _ h => absurd h List.not_mem_nil
abbrev b_Tr_cutAll : AT := [(0, am_ald 0 1), (1, am_ald 0 1), (2, am_get am_Y 6 1), (5, am_callV am_Y 5 71 0), (8, am_lc 0 1), (9, am_lcmp 5 17), (13, am_ic 1 1), (14, am_goto 18), (17, am_ic (-1) 1), (18, am_put am_Y 6 7), (21, am_ald 0 1), (22, am_ald 0 1), (23, am_get am_Y 6 1), (26, am_get am_Y 5 2), (29, am_put am_Y 6 6), (32, am_ic 0 1), (33, am_ist 1 1), (34, am_ild 1 1), (35, am_ald 0 1), (36, am_get am_Y 6 6), (39, am_icmp 3 55), (42, am_ald 0 1), (43, am_get am_Y 6 5), (46, am_ild 1 1), (47, am_ild 1 1), (48, am_iast am_Y), (49, am_inc 1 (1)), (52, am_goto 34), (55, am_ald 0 1), (56, am_get am_Y 6 1), (59, am_get am_Y 5 2), (62, am_ic 3 1), (63, am_isub), (64, am_ist 1 1), (65, am_ild 1 1), (66, am_if 5 115), (69, am_ald 0 1), (70, am_callV am_Y 6 81 0), (73, am_ist 2 1), (74, am_ald 0 1), (75, am_ald 0 1), (76, am_get am_Y 6 5), (79, am_ald 0 1), (80, am_ild 2 1), (81, am_callV am_Y 6 76 1), (84, am_iald am_Y), (85, am_ald 0 1), (86, am_get am_Y 6 5), (89, am_ild 2 1), (90, am_iald am_Y), (91, am_ald 0 1), (92, am_get am_Y 6 5), (95, am_ald 0 1), (96, am_ild 2 1), (97, am_callV am_Y 6 77 1), (100, am_iald am_Y), (101, am_callV am_Y 6 82 3), (104, am_ald 0 1), (105, am_ild 2 1), (106, am_callV am_Y 6 83 1), (109, am_inc 1 (-1)), (112, am_goto 65), (115, am_ald 0 1), (116, am_ald 0 1), (117, am_get am_Y 6 5), (120, am_ic 0 1), (121, am_iald am_Y), (122, am_ald 0 1), (123, am_get am_Y 6 5), (126, am_ic 1 1), (127, am_iald am_Y), (128, am_ald 0 1), (129, am_get am_Y 6 5), (132, am_ic 2 1), (133, am_iald am_Y), (134, am_callV am_Y 6 82 3), (137, am_vret)]
set_option maxRecDepth 100000 in
set_option maxHeartbeats 4000000 in
theorem T_Tr_cutAll : am_T am_Y am_cl am_Gw am_mi 84 b_Tr_cutAll := by
  intro E A p l e s m args below meth c Rt X hr
  refine List.forall_mem_cons.mpr ⟨am_aload_n_ok (k := 0) X (by decide +kernel), ?_⟩
  refine List.forall_mem_cons.mpr ⟨am_aload_n_ok (k := 0) X (by decide +kernel), ?_⟩
  refine List.forall_mem_cons.mpr ⟨am_get_ok (C := R_Tr) (T := F_Tr) (N := 8) (idx := 35) X rfl (by decide) (fun w h => List.mem_cons_of_mem _ (u_Tr w h)) (List.mem_cons_of_mem _ w_Tr_35) (by decide +kernel), ?_⟩
  refine List.forall_mem_cons.mpr ⟨am_callV_ok (C := R_Ro) (T := F_Ro) (N := 4) (idx := 45) X rfl (am_GV m_Tr_45 v_Ro_sumRound.1 v_Ro_sumRound.2.1 v_Ro_sumRound.2.2.1 v_Ro_sumRound.2.2.2) ⟨rfl, v_Ro_sumRoundd⟩ ⟨by decide, by decide⟩ (Nat.zero_le _) (by decide +kernel), ?_⟩
  refine List.forall_mem_cons.mpr ⟨am_lconst_ok (n := 0) X (by decide +kernel), ?_⟩
  refine List.forall_mem_cons.mpr ⟨am_lcmp_le_ok (off := 7) X (by decide +kernel) (by decide +kernel) (by decide), ?_⟩
  refine List.forall_mem_cons.mpr ⟨am_iconst_ok X (by decide +kernel), ?_⟩
  refine List.forall_mem_cons.mpr ⟨am_goto_ok (off := 4) X (by decide +kernel) (by decide), ?_⟩
  refine List.forall_mem_cons.mpr ⟨am_iconst_ok X (by decide +kernel), ?_⟩
  refine List.forall_mem_cons.mpr ⟨am_put_ok (C := R_Tr) (T := F_Tr) (N := 8) (idx := 28) X rfl (by decide) (fun w h => List.mem_cons_of_mem _ (u_Tr w h)) t_Tr_ok n_Tr rfl (by decide +kernel) (List.mem_cons_of_mem _ w_Tr_28) (by decide +kernel), ?_⟩
  refine List.forall_mem_cons.mpr ⟨am_aload_n_ok (k := 0) X (by decide +kernel), ?_⟩
  refine List.forall_mem_cons.mpr ⟨am_aload_n_ok (k := 0) X (by decide +kernel), ?_⟩
  refine List.forall_mem_cons.mpr ⟨am_get_ok (C := R_Tr) (T := F_Tr) (N := 8) (idx := 35) X rfl (by decide) (fun w h => List.mem_cons_of_mem _ (u_Tr w h)) (List.mem_cons_of_mem _ w_Tr_35) (by decide +kernel), ?_⟩
  refine List.forall_mem_cons.mpr ⟨am_get_ok (C := R_Ro) (T := F_Ro) (N := 4) (idx := 49) X rfl (by decide) (fun w h => List.mem_cons_of_mem _ (u_Ro w h)) (List.mem_cons_of_mem _ w_Tr_49) (by decide +kernel), ?_⟩
  refine List.forall_mem_cons.mpr ⟨am_put_ok (C := R_Tr) (T := F_Tr) (N := 8) (idx := 25) X rfl (by decide) (fun w h => List.mem_cons_of_mem _ (u_Tr w h)) t_Tr_ok n_Tr rfl (by decide +kernel) (List.mem_cons_of_mem _ w_Tr_25) (by decide +kernel), ?_⟩
  refine List.forall_mem_cons.mpr ⟨am_iconst_ok X (by decide +kernel), ?_⟩
  refine List.forall_mem_cons.mpr ⟨am_istore_n_ok (k := 1) X (by decide) (by decide +kernel), ?_⟩
  refine List.forall_mem_cons.mpr ⟨am_iload_n_ok (k := 1) X (by decide +kernel), ?_⟩
  refine List.forall_mem_cons.mpr ⟨am_aload_n_ok (k := 0) X (by decide +kernel), ?_⟩
  refine List.forall_mem_cons.mpr ⟨am_get_ok (C := R_Tr) (T := F_Tr) (N := 8) (idx := 25) X rfl (by decide) (fun w h => List.mem_cons_of_mem _ (u_Tr w h)) (List.mem_cons_of_mem _ w_Tr_25) (by decide +kernel), ?_⟩
  refine List.forall_mem_cons.mpr ⟨am_icmp_ge_ok (off := 16) X (by decide +kernel) (by decide), ?_⟩
  refine List.forall_mem_cons.mpr ⟨am_aload_n_ok (k := 0) X (by decide +kernel), ?_⟩
  refine List.forall_mem_cons.mpr ⟨am_get_ok (C := R_Tr) (T := F_Tr) (N := 8) (idx := 22) X rfl (by decide) (fun w h => List.mem_cons_of_mem _ (u_Tr w h)) (List.mem_cons_of_mem _ w_Tr_22) (by decide +kernel), ?_⟩
  refine List.forall_mem_cons.mpr ⟨am_iload_n_ok (k := 1) X (by decide +kernel), ?_⟩
  refine List.forall_mem_cons.mpr ⟨am_iload_n_ok (k := 1) X (by decide +kernel), ?_⟩
  refine List.forall_mem_cons.mpr ⟨am_iast_ok X am_Y0 (by decide +kernel), ?_⟩
  refine List.forall_mem_cons.mpr ⟨am_iinc_ok X (by decide) (by decide +kernel), ?_⟩
  refine List.forall_mem_cons.mpr ⟨am_goto_ok (off := -18) X (by decide +kernel) (by decide), ?_⟩
  refine List.forall_mem_cons.mpr ⟨am_aload_n_ok (k := 0) X (by decide +kernel), ?_⟩
  refine List.forall_mem_cons.mpr ⟨am_get_ok (C := R_Tr) (T := F_Tr) (N := 8) (idx := 35) X rfl (by decide) (fun w h => List.mem_cons_of_mem _ (u_Tr w h)) (List.mem_cons_of_mem _ w_Tr_35) (by decide +kernel), ?_⟩
  refine List.forall_mem_cons.mpr ⟨am_get_ok (C := R_Ro) (T := F_Ro) (N := 4) (idx := 49) X rfl (by decide) (fun w h => List.mem_cons_of_mem _ (u_Ro w h)) (List.mem_cons_of_mem _ w_Tr_49) (by decide +kernel), ?_⟩
  refine List.forall_mem_cons.mpr ⟨am_iconst_ok X (by decide +kernel), ?_⟩
  refine List.forall_mem_cons.mpr ⟨am_isub_ok X (by decide +kernel), ?_⟩
  refine List.forall_mem_cons.mpr ⟨am_istore_n_ok (k := 1) X (by decide) (by decide +kernel), ?_⟩
  refine List.forall_mem_cons.mpr ⟨am_iload_n_ok (k := 1) X (by decide +kernel), ?_⟩
  refine List.forall_mem_cons.mpr ⟨am_if_le_ok (off := 49) X (by decide +kernel) (by decide), ?_⟩
  refine List.forall_mem_cons.mpr ⟨am_aload_n_ok (k := 0) X (by decide +kernel), ?_⟩
  refine List.forall_mem_cons.mpr ⟨am_callV_ok (C := R_Tr) (T := F_Tr) (N := 8) (idx := 50) X rfl (am_GV m_Tr_50 v_Tr_firstEar.1 v_Tr_firstEar.2.1 v_Tr_firstEar.2.2.1 v_Tr_firstEar.2.2.2) ⟨rfl, v_Tr_firstEard⟩ ⟨by decide, by decide⟩ (Nat.zero_le _) (by decide +kernel), ?_⟩
  refine List.forall_mem_cons.mpr ⟨am_istore_n_ok (k := 2) X (by decide) (by decide +kernel), ?_⟩
  refine List.forall_mem_cons.mpr ⟨am_aload_n_ok (k := 0) X (by decide +kernel), ?_⟩
  refine List.forall_mem_cons.mpr ⟨am_aload_n_ok (k := 0) X (by decide +kernel), ?_⟩
  refine List.forall_mem_cons.mpr ⟨am_get_ok (C := R_Tr) (T := F_Tr) (N := 8) (idx := 22) X rfl (by decide) (fun w h => List.mem_cons_of_mem _ (u_Tr w h)) (List.mem_cons_of_mem _ w_Tr_22) (by decide +kernel), ?_⟩
  refine List.forall_mem_cons.mpr ⟨am_aload_n_ok (k := 0) X (by decide +kernel), ?_⟩
  refine List.forall_mem_cons.mpr ⟨am_iload_n_ok (k := 2) X (by decide +kernel), ?_⟩
  refine List.forall_mem_cons.mpr ⟨am_callV_ok (C := R_Tr) (T := F_Tr) (N := 8) (idx := 54) X rfl (am_GV m_Tr_54 v_Tr_before.1 v_Tr_before.2.1 v_Tr_before.2.2.1 v_Tr_before.2.2.2) ⟨rfl, v_Tr_befored⟩ ⟨by decide, by decide⟩ (Nat.zero_le _) (by decide +kernel), ?_⟩
  refine List.forall_mem_cons.mpr ⟨am_iald_ok X am_Y0 (by decide +kernel), ?_⟩
  refine List.forall_mem_cons.mpr ⟨am_aload_n_ok (k := 0) X (by decide +kernel), ?_⟩
  refine List.forall_mem_cons.mpr ⟨am_get_ok (C := R_Tr) (T := F_Tr) (N := 8) (idx := 22) X rfl (by decide) (fun w h => List.mem_cons_of_mem _ (u_Tr w h)) (List.mem_cons_of_mem _ w_Tr_22) (by decide +kernel), ?_⟩
  refine List.forall_mem_cons.mpr ⟨am_iload_n_ok (k := 2) X (by decide +kernel), ?_⟩
  refine List.forall_mem_cons.mpr ⟨am_iald_ok X am_Y0 (by decide +kernel), ?_⟩
  refine List.forall_mem_cons.mpr ⟨am_aload_n_ok (k := 0) X (by decide +kernel), ?_⟩
  refine List.forall_mem_cons.mpr ⟨am_get_ok (C := R_Tr) (T := F_Tr) (N := 8) (idx := 22) X rfl (by decide) (fun w h => List.mem_cons_of_mem _ (u_Tr w h)) (List.mem_cons_of_mem _ w_Tr_22) (by decide +kernel), ?_⟩
  refine List.forall_mem_cons.mpr ⟨am_aload_n_ok (k := 0) X (by decide +kernel), ?_⟩
  refine List.forall_mem_cons.mpr ⟨am_iload_n_ok (k := 2) X (by decide +kernel), ?_⟩
  refine List.forall_mem_cons.mpr ⟨am_callV_ok (C := R_Tr) (T := F_Tr) (N := 8) (idx := 58) X rfl (am_GV m_Tr_58 v_Tr_behind.1 v_Tr_behind.2.1 v_Tr_behind.2.2.1 v_Tr_behind.2.2.2) ⟨rfl, v_Tr_behindd⟩ ⟨by decide, by decide⟩ (Nat.zero_le _) (by decide +kernel), ?_⟩
  refine List.forall_mem_cons.mpr ⟨am_iald_ok X am_Y0 (by decide +kernel), ?_⟩
  refine List.forall_mem_cons.mpr ⟨am_callV_ok (C := R_Tr) (T := F_Tr) (N := 8) (idx := 61) X rfl (am_GV m_Tr_61 v_Tr_keep.1 v_Tr_keep.2.1 v_Tr_keep.2.2.1 v_Tr_keep.2.2.2) ⟨rfl, v_Tr_keepd⟩ ⟨by decide, by decide⟩ (Nat.zero_le _) (by decide +kernel), ?_⟩
  refine List.forall_mem_cons.mpr ⟨am_aload_n_ok (k := 0) X (by decide +kernel), ?_⟩
  refine List.forall_mem_cons.mpr ⟨am_iload_n_ok (k := 2) X (by decide +kernel), ?_⟩
  refine List.forall_mem_cons.mpr ⟨am_callV_ok (C := R_Tr) (T := F_Tr) (N := 8) (idx := 65) X rfl (am_GV m_Tr_65 v_Tr_remove.1 v_Tr_remove.2.1 v_Tr_remove.2.2.1 v_Tr_remove.2.2.2) ⟨rfl, v_Tr_removed⟩ ⟨by decide, by decide⟩ (Nat.zero_le _) (by decide +kernel), ?_⟩
  refine List.forall_mem_cons.mpr ⟨am_iinc_ok X (by decide) (by decide +kernel), ?_⟩
  refine List.forall_mem_cons.mpr ⟨am_goto_ok (off := -47) X (by decide +kernel) (by decide), ?_⟩
  refine List.forall_mem_cons.mpr ⟨am_aload_n_ok (k := 0) X (by decide +kernel), ?_⟩
  refine List.forall_mem_cons.mpr ⟨am_aload_n_ok (k := 0) X (by decide +kernel), ?_⟩
  refine List.forall_mem_cons.mpr ⟨am_get_ok (C := R_Tr) (T := F_Tr) (N := 8) (idx := 22) X rfl (by decide) (fun w h => List.mem_cons_of_mem _ (u_Tr w h)) (List.mem_cons_of_mem _ w_Tr_22) (by decide +kernel), ?_⟩
  refine List.forall_mem_cons.mpr ⟨am_iconst_ok X (by decide +kernel), ?_⟩
  refine List.forall_mem_cons.mpr ⟨am_iald_ok X am_Y0 (by decide +kernel), ?_⟩
  refine List.forall_mem_cons.mpr ⟨am_aload_n_ok (k := 0) X (by decide +kernel), ?_⟩
  refine List.forall_mem_cons.mpr ⟨am_get_ok (C := R_Tr) (T := F_Tr) (N := 8) (idx := 22) X rfl (by decide) (fun w h => List.mem_cons_of_mem _ (u_Tr w h)) (List.mem_cons_of_mem _ w_Tr_22) (by decide +kernel), ?_⟩
  refine List.forall_mem_cons.mpr ⟨am_iconst_ok X (by decide +kernel), ?_⟩
  refine List.forall_mem_cons.mpr ⟨am_iald_ok X am_Y0 (by decide +kernel), ?_⟩
  refine List.forall_mem_cons.mpr ⟨am_aload_n_ok (k := 0) X (by decide +kernel), ?_⟩
  refine List.forall_mem_cons.mpr ⟨am_get_ok (C := R_Tr) (T := F_Tr) (N := 8) (idx := 22) X rfl (by decide) (fun w h => List.mem_cons_of_mem _ (u_Tr w h)) (List.mem_cons_of_mem _ w_Tr_22) (by decide +kernel), ?_⟩
  refine List.forall_mem_cons.mpr ⟨am_iconst_ok X (by decide +kernel), ?_⟩
  refine List.forall_mem_cons.mpr ⟨am_iald_ok X am_Y0 (by decide +kernel), ?_⟩
  refine List.forall_mem_cons.mpr ⟨am_callV_ok (C := R_Tr) (T := F_Tr) (N := 8) (idx := 61) X rfl (am_GV m_Tr_61 v_Tr_keep.1 v_Tr_keep.2.1 v_Tr_keep.2.2.1 v_Tr_keep.2.2.2) ⟨rfl, v_Tr_keepd⟩ ⟨by decide, by decide⟩ (Nat.zero_le _) (by decide +kernel), ?_⟩
  refine List.forall_mem_cons.mpr ⟨am_vret_ok X hr (by decide +kernel), ?_⟩
  exact fun _ h => absurd h List.not_mem_nil
abbrev b_Tr_refresh : AT := [(0, am_ald 0 1), (1, am_get am_Y 6 4), (4, am_ald 0 1), (5, am_get am_Y 6 1), (8, am_get am_Y 5 3), (11, am_icmp 1 15), (14, am_vret), (15, am_ald 0 1), (16, am_ic 0 1), (17, am_put am_Y 6 3), (20, am_ild 1 1), (21, am_if 0 28), (24, am_ald 0 1), (25, am_callV am_Y 6 84 0), (28, am_ald 0 1), (29, am_ald 0 1), (30, am_get am_Y 6 1), (33, am_get am_Y 5 3), (36, am_put am_Y 6 4), (39, am_vret)]
set_option maxRecDepth 100000 in
set_option maxHeartbeats 4000000 in
theorem T_Tr_refresh : am_T am_Y am_cl am_Gw am_mi 85 b_Tr_refresh := by
  intro E A p l e s m args below meth c Rt X hr
  refine List.forall_mem_cons.mpr ⟨am_aload_n_ok (k := 0) X (by decide +kernel), ?_⟩
  refine List.forall_mem_cons.mpr ⟨am_get_ok (C := R_Tr) (T := F_Tr) (N := 8) (idx := 19) X rfl (by decide) (fun w h => List.mem_cons_of_mem _ (u_Tr w h)) (List.mem_cons_of_mem _ w_Tr_19) (by decide +kernel), ?_⟩
  refine List.forall_mem_cons.mpr ⟨am_aload_n_ok (k := 0) X (by decide +kernel), ?_⟩
  refine List.forall_mem_cons.mpr ⟨am_get_ok (C := R_Tr) (T := F_Tr) (N := 8) (idx := 35) X rfl (by decide) (fun w h => List.mem_cons_of_mem _ (u_Tr w h)) (List.mem_cons_of_mem _ w_Tr_35) (by decide +kernel), ?_⟩
  refine List.forall_mem_cons.mpr ⟨am_get_ok (C := R_Ro) (T := F_Ro) (N := 4) (idx := 39) X rfl (by decide) (fun w h => List.mem_cons_of_mem _ (u_Ro w h)) (List.mem_cons_of_mem _ w_Tr_39) (by decide +kernel), ?_⟩
  refine List.forall_mem_cons.mpr ⟨am_icmp_ne_ok (off := 4) X (by decide +kernel) (by decide), ?_⟩
  refine List.forall_mem_cons.mpr ⟨am_vret_ok X hr (by decide +kernel), ?_⟩
  refine List.forall_mem_cons.mpr ⟨am_aload_n_ok (k := 0) X (by decide +kernel), ?_⟩
  refine List.forall_mem_cons.mpr ⟨am_iconst_ok X (by decide +kernel), ?_⟩
  refine List.forall_mem_cons.mpr ⟨am_put_ok (C := R_Tr) (T := F_Tr) (N := 8) (idx := 15) X rfl (by decide) (fun w h => List.mem_cons_of_mem _ (u_Tr w h)) t_Tr_ok n_Tr rfl (by decide +kernel) (List.mem_cons_of_mem _ w_Tr_15) (by decide +kernel), ?_⟩
  refine List.forall_mem_cons.mpr ⟨am_iload_n_ok (k := 1) X (by decide +kernel), ?_⟩
  refine List.forall_mem_cons.mpr ⟨am_if_eq_ok (off := 7) X (by decide +kernel) (by decide), ?_⟩
  refine List.forall_mem_cons.mpr ⟨am_aload_n_ok (k := 0) X (by decide +kernel), ?_⟩
  refine List.forall_mem_cons.mpr ⟨am_callV_ok (C := R_Tr) (T := F_Tr) (N := 8) (idx := 42) X rfl (am_GV m_Tr_42 v_Tr_cutAll.1 v_Tr_cutAll.2.1 v_Tr_cutAll.2.2.1 v_Tr_cutAll.2.2.2) ⟨rfl, v_Tr_cutAlld⟩ ⟨by decide, by decide⟩ (Nat.zero_le _) (by decide +kernel), ?_⟩
  refine List.forall_mem_cons.mpr ⟨am_aload_n_ok (k := 0) X (by decide +kernel), ?_⟩
  refine List.forall_mem_cons.mpr ⟨am_aload_n_ok (k := 0) X (by decide +kernel), ?_⟩
  refine List.forall_mem_cons.mpr ⟨am_get_ok (C := R_Tr) (T := F_Tr) (N := 8) (idx := 35) X rfl (by decide) (fun w h => List.mem_cons_of_mem _ (u_Tr w h)) (List.mem_cons_of_mem _ w_Tr_35) (by decide +kernel), ?_⟩
  refine List.forall_mem_cons.mpr ⟨am_get_ok (C := R_Ro) (T := F_Ro) (N := 4) (idx := 39) X rfl (by decide) (fun w h => List.mem_cons_of_mem _ (u_Ro w h)) (List.mem_cons_of_mem _ w_Tr_39) (by decide +kernel), ?_⟩
  refine List.forall_mem_cons.mpr ⟨am_put_ok (C := R_Tr) (T := F_Tr) (N := 8) (idx := 19) X rfl (by decide) (fun w h => List.mem_cons_of_mem _ (u_Tr w h)) t_Tr_ok n_Tr rfl (by decide +kernel) (List.mem_cons_of_mem _ w_Tr_19) (by decide +kernel), ?_⟩
  refine List.forall_mem_cons.mpr ⟨am_vret_ok X hr (by decide +kernel), ?_⟩
  exact fun _ h => absurd h List.not_mem_nil
abbrev b_De_triangle : AT := [(0, am_ald 0 1), (1, am_get am_Y 8 6), (4, am_ald 0 1), (5, am_callV am_Y 8 68 0), (8, am_callV am_Y 6 85 1), (11, am_ild 1 1), (12, am_if 2 38), (15, am_ild 1 1), (16, am_ald 0 1), (17, am_get am_Y 8 6), (20, am_get am_Y 6 3), (23, am_icmp 3 38), (26, am_ald 0 1), (27, am_get am_Y 8 6), (30, am_get am_Y 6 2), (33, am_ild 1 1), (34, am_iald am_Y), (35, am_goto 39), (38, am_ic (-1) 1), (39, am_ret)]
set_option maxRecDepth 100000 in
set_option maxHeartbeats 4000000 in
theorem T_De_triangle : am_T am_Y am_cl am_Gw am_mi 86 b_De_triangle := by
  intro E A p l e s m args below meth c Rt X hr
  refine List.forall_mem_cons.mpr ⟨am_aload_n_ok (k := 0) X (by decide +kernel), ?_⟩
  refine List.forall_mem_cons.mpr ⟨am_get_ok (C := R_De) (T := F_De) (N := 7) (idx := 60) X rfl (by decide) (fun w h => List.mem_cons_of_mem _ (u_De w h)) (List.mem_cons_of_mem _ w_De_60) (by decide +kernel), ?_⟩
  refine List.forall_mem_cons.mpr ⟨am_aload_n_ok (k := 0) X (by decide +kernel), ?_⟩
  refine List.forall_mem_cons.mpr ⟨am_callV_ok (C := R_De) (T := F_De) (N := 7) (idx := 182) X rfl (am_GV m_De_182 v_De_isRouteSimple.1 v_De_isRouteSimple.2.1 v_De_isRouteSimple.2.2.1 v_De_isRouteSimple.2.2.2) ⟨rfl, v_De_isRouteSimpled⟩ ⟨by decide, by decide⟩ (Nat.zero_le _) (by decide +kernel), ?_⟩
  refine List.forall_mem_cons.mpr ⟨am_callV_ok (C := R_Tr) (T := F_Tr) (N := 8) (idx := 190) X rfl (am_GV m_De_190 v_Tr_refresh.1 v_Tr_refresh.2.1 v_Tr_refresh.2.2.1 v_Tr_refresh.2.2.2) ⟨rfl, v_Tr_refreshd⟩ ⟨by decide, by decide⟩ (Nat.zero_le _) (by decide +kernel), ?_⟩
  refine List.forall_mem_cons.mpr ⟨am_iload_n_ok (k := 1) X (by decide +kernel), ?_⟩
  refine List.forall_mem_cons.mpr ⟨am_if_lt_ok (off := 26) X (by decide +kernel) (by decide), ?_⟩
  refine List.forall_mem_cons.mpr ⟨am_iload_n_ok (k := 1) X (by decide +kernel), ?_⟩
  refine List.forall_mem_cons.mpr ⟨am_aload_n_ok (k := 0) X (by decide +kernel), ?_⟩
  refine List.forall_mem_cons.mpr ⟨am_get_ok (C := R_De) (T := F_De) (N := 7) (idx := 60) X rfl (by decide) (fun w h => List.mem_cons_of_mem _ (u_De w h)) (List.mem_cons_of_mem _ w_De_60) (by decide +kernel), ?_⟩
  refine List.forall_mem_cons.mpr ⟨am_get_ok (C := R_Tr) (T := F_Tr) (N := 8) (idx := 193) X rfl (by decide) (fun w h => List.mem_cons_of_mem _ (u_Tr w h)) (List.mem_cons_of_mem _ w_De_193) (by decide +kernel), ?_⟩
  refine List.forall_mem_cons.mpr ⟨am_icmp_ge_ok (off := 15) X (by decide +kernel) (by decide), ?_⟩
  refine List.forall_mem_cons.mpr ⟨am_aload_n_ok (k := 0) X (by decide +kernel), ?_⟩
  refine List.forall_mem_cons.mpr ⟨am_get_ok (C := R_De) (T := F_De) (N := 7) (idx := 60) X rfl (by decide) (fun w h => List.mem_cons_of_mem _ (u_De w h)) (List.mem_cons_of_mem _ w_De_60) (by decide +kernel), ?_⟩
  refine List.forall_mem_cons.mpr ⟨am_get_ok (C := R_Tr) (T := F_Tr) (N := 8) (idx := 194) X rfl (by decide) (fun w h => List.mem_cons_of_mem _ (u_Tr w h)) (List.mem_cons_of_mem _ w_De_194) (by decide +kernel), ?_⟩
  refine List.forall_mem_cons.mpr ⟨am_iload_n_ok (k := 1) X (by decide +kernel), ?_⟩
  refine List.forall_mem_cons.mpr ⟨am_iald_ok X am_Y0 (by decide +kernel), ?_⟩
  refine List.forall_mem_cons.mpr ⟨am_goto_ok (off := 4) X (by decide +kernel) (by decide), ?_⟩
  refine List.forall_mem_cons.mpr ⟨am_iconst_ok X (by decide +kernel), ?_⟩
  refine List.forall_mem_cons.mpr ⟨am_ret_ok X hr (by decide +kernel), ?_⟩
  exact fun _ h => absurd h List.not_mem_nil
abbrev b_Hu_holdsAllPoints : AT := [(0, am_ic 0 1), (1, am_ist 1 1), (2, am_ild 1 1), (3, am_ald 0 1), (4, am_get am_Y 1 0), (7, am_get am_Y 4 2), (10, am_icmp 3 29), (13, am_ald 0 1), (14, am_ild 1 1), (15, am_callV am_Y 1 20 1), (18, am_if 3 23), (21, am_ic 0 1), (22, am_zret), (23, am_inc 1 (1)), (26, am_goto 2), (29, am_ic 1 1), (30, am_zret)]
set_option maxRecDepth 100000 in
set_option maxHeartbeats 4000000 in
theorem T_Hu_holdsAllPoints : am_T am_Y am_cl am_Gw am_mi 87 b_Hu_holdsAllPoints := by
  intro E A p l e s m args below meth c Rt X hr
  refine List.forall_mem_cons.mpr ⟨am_iconst_ok X (by decide +kernel), ?_⟩
  refine List.forall_mem_cons.mpr ⟨am_istore_n_ok (k := 1) X (by decide) (by decide +kernel), ?_⟩
  refine List.forall_mem_cons.mpr ⟨am_iload_n_ok (k := 1) X (by decide +kernel), ?_⟩
  refine List.forall_mem_cons.mpr ⟨am_aload_n_ok (k := 0) X (by decide +kernel), ?_⟩
  refine List.forall_mem_cons.mpr ⟨am_get_ok (C := R_Hu) (T := F_Hu) (N := 5) (idx := 26) X rfl (by decide) (fun w h => List.mem_cons_of_mem _ (u_Hu w h)) (List.mem_cons_of_mem _ w_Hu_26) (by decide +kernel), ?_⟩
  refine List.forall_mem_cons.mpr ⟨am_get_ok (C := R_Po) (T := F_Po) (N := 4) (idx := 47) X rfl (by decide) (fun w h => List.mem_cons_of_mem _ (u_Po w h)) (List.mem_cons_of_mem _ w_Hu_47) (by decide +kernel), ?_⟩
  refine List.forall_mem_cons.mpr ⟨am_icmp_ge_ok (off := 19) X (by decide +kernel) (by decide), ?_⟩
  refine List.forall_mem_cons.mpr ⟨am_aload_n_ok (k := 0) X (by decide +kernel), ?_⟩
  refine List.forall_mem_cons.mpr ⟨am_iload_n_ok (k := 1) X (by decide +kernel), ?_⟩
  refine List.forall_mem_cons.mpr ⟨am_callV_ok (C := R_Hu) (T := F_Hu) (N := 5) (idx := 83) X rfl (am_GV m_Hu_83 v_Hu_holds.1 v_Hu_holds.2.1 v_Hu_holds.2.2.1 v_Hu_holds.2.2.2) ⟨rfl, v_Hu_holdsd⟩ ⟨by decide, by decide⟩ (Nat.zero_le _) (by decide +kernel), ?_⟩
  refine List.forall_mem_cons.mpr ⟨am_if_ge_ok (off := 5) X (by decide +kernel) (by decide), ?_⟩
  refine List.forall_mem_cons.mpr ⟨am_iconst_ok X (by decide +kernel), ?_⟩
  refine List.forall_mem_cons.mpr ⟨am_zret_ok X hr (by decide +kernel), ?_⟩
  refine List.forall_mem_cons.mpr ⟨am_iinc_ok X (by decide) (by decide +kernel), ?_⟩
  refine List.forall_mem_cons.mpr ⟨am_goto_ok (off := -24) X (by decide +kernel) (by decide), ?_⟩
  refine List.forall_mem_cons.mpr ⟨am_iconst_ok X (by decide +kernel), ?_⟩
  refine List.forall_mem_cons.mpr ⟨am_zret_ok X hr (by decide +kernel), ?_⟩
  exact fun _ h => absurd h List.not_mem_nil
abbrev b_Hu_sumRound : AT := [(0, am_lc 0 1), (1, am_lst 1 1), (2, am_ic 0 1), (3, am_ist 3 1), (4, am_ild 3 1), (5, am_ald 0 1), (6, am_get am_Y 1 3), (9, am_icmp 3 39), (12, am_lld 1 1), (13, am_ald 0 1), (14, am_get am_Y 1 0), (17, am_ald 0 1), (18, am_get am_Y 1 2), (21, am_ild 3 1), (22, am_iald am_Y), (23, am_ald 0 1), (24, am_ild 3 1), (25, am_callV am_Y 1 19 1), (28, am_callV am_Y 4 70 2), (31, am_ladd), (32, am_lst 1 1), (33, am_inc 3 (1)), (36, am_goto 4), (39, am_lld 1 1), (40, am_lret)]
set_option maxRecDepth 100000 in
set_option maxHeartbeats 4000000 in
theorem T_Hu_sumRound : am_T am_Y am_cl am_Gw am_mi 88 b_Hu_sumRound := by
  intro E A p l e s m args below meth c Rt X hr
  refine List.forall_mem_cons.mpr ⟨am_lconst_ok (n := 0) X (by decide +kernel), ?_⟩
  refine List.forall_mem_cons.mpr ⟨am_lstore_n_ok (k := 1) X (by decide) (by decide +kernel), ?_⟩
  refine List.forall_mem_cons.mpr ⟨am_iconst_ok X (by decide +kernel), ?_⟩
  refine List.forall_mem_cons.mpr ⟨am_istore_n_ok (k := 3) X (by decide) (by decide +kernel), ?_⟩
  refine List.forall_mem_cons.mpr ⟨am_iload_n_ok (k := 3) X (by decide +kernel), ?_⟩
  refine List.forall_mem_cons.mpr ⟨am_aload_n_ok (k := 0) X (by decide +kernel), ?_⟩
  refine List.forall_mem_cons.mpr ⟨am_get_ok (C := R_Hu) (T := F_Hu) (N := 5) (idx := 19) X rfl (by decide) (fun w h => List.mem_cons_of_mem _ (u_Hu w h)) (List.mem_cons_of_mem _ w_Hu_19) (by decide +kernel), ?_⟩
  refine List.forall_mem_cons.mpr ⟨am_icmp_ge_ok (off := 30) X (by decide +kernel) (by decide), ?_⟩
  refine List.forall_mem_cons.mpr ⟨am_lload_n_ok (k := 1) X (by decide +kernel), ?_⟩
  refine List.forall_mem_cons.mpr ⟨am_aload_n_ok (k := 0) X (by decide +kernel), ?_⟩
  refine List.forall_mem_cons.mpr ⟨am_get_ok (C := R_Hu) (T := F_Hu) (N := 5) (idx := 26) X rfl (by decide) (fun w h => List.mem_cons_of_mem _ (u_Hu w h)) (List.mem_cons_of_mem _ w_Hu_26) (by decide +kernel), ?_⟩
  refine List.forall_mem_cons.mpr ⟨am_aload_n_ok (k := 0) X (by decide +kernel), ?_⟩
  refine List.forall_mem_cons.mpr ⟨am_get_ok (C := R_Hu) (T := F_Hu) (N := 5) (idx := 15) X rfl (by decide) (fun w h => List.mem_cons_of_mem _ (u_Hu w h)) (List.mem_cons_of_mem _ w_Hu_15) (by decide +kernel), ?_⟩
  refine List.forall_mem_cons.mpr ⟨am_iload_n_ok (k := 3) X (by decide +kernel), ?_⟩
  refine List.forall_mem_cons.mpr ⟨am_iald_ok X am_Y0 (by decide +kernel), ?_⟩
  refine List.forall_mem_cons.mpr ⟨am_aload_n_ok (k := 0) X (by decide +kernel), ?_⟩
  refine List.forall_mem_cons.mpr ⟨am_iload_n_ok (k := 3) X (by decide +kernel), ?_⟩
  refine List.forall_mem_cons.mpr ⟨am_callV_ok (C := R_Hu) (T := F_Hu) (N := 5) (idx := 80) X rfl (am_GV m_Hu_80 v_Hu_cornerAfter.1 v_Hu_cornerAfter.2.1 v_Hu_cornerAfter.2.2.1 v_Hu_cornerAfter.2.2.2) ⟨rfl, v_Hu_cornerAfterd⟩ ⟨by decide, by decide⟩ (Nat.zero_le _) (by decide +kernel), ?_⟩
  refine List.forall_mem_cons.mpr ⟨am_callV_ok (C := R_Po) (T := F_Po) (N := 4) (idx := 86) X rfl (am_GV m_Hu_86 v_Po_roundProduct.1 v_Po_roundProduct.2.1 v_Po_roundProduct.2.2.1 v_Po_roundProduct.2.2.2) ⟨rfl, v_Po_roundProductd⟩ ⟨by decide, by decide⟩ (Nat.zero_le _) (by decide +kernel), ?_⟩
  refine List.forall_mem_cons.mpr ⟨am_ladd_ok X (by decide +kernel), ?_⟩
  refine List.forall_mem_cons.mpr ⟨am_lstore_n_ok (k := 1) X (by decide) (by decide +kernel), ?_⟩
  refine List.forall_mem_cons.mpr ⟨am_iinc_ok X (by decide) (by decide +kernel), ?_⟩
  refine List.forall_mem_cons.mpr ⟨am_goto_ok (off := -32) X (by decide +kernel) (by decide), ?_⟩
  refine List.forall_mem_cons.mpr ⟨am_lload_n_ok (k := 1) X (by decide +kernel), ?_⟩
  refine List.forall_mem_cons.mpr ⟨am_lret_ok X hr (by decide +kernel), ?_⟩
  exact fun _ h => absurd h List.not_mem_nil
abbrev b_Tr_fillTheRoute : AT := [(0, am_lc 0 1), (1, am_lst 1 1), (2, am_ic 0 1), (3, am_ist 3 1), (4, am_ild 3 1), (5, am_ald 0 1), (6, am_get am_Y 6 3), (9, am_icmp 3 109), (12, am_ald 0 1), (13, am_get am_Y 6 1), (16, am_get am_Y 5 1), (19, am_ald 0 1), (20, am_get am_Y 6 2), (23, am_ild 3 1), (24, am_iald am_Y), (25, am_ic (4096) 3), (28, am_idiv), (29, am_iald am_Y), (30, am_ist 4 2), (32, am_ald 0 1), (33, am_get am_Y 6 1), (36, am_get am_Y 5 1), (39, am_ald 0 1), (40, am_get am_Y 6 2), (43, am_ild 3 1), (44, am_iald am_Y), (45, am_ic (64) 2), (47, am_idiv), (48, am_ic (64) 2), (50, am_irem), (51, am_iald am_Y), (52, am_ist 5 2), (54, am_ald 0 1), (55, am_get am_Y 6 1), (58, am_get am_Y 5 1), (61, am_ald 0 1), (62, am_get am_Y 6 2), (65, am_ild 3 1), (66, am_iald am_Y), (67, am_ic (64) 2), (69, am_irem), (70, am_iald am_Y), (71, am_ist 6 2), (73, am_ald 0 1), (74, am_ild 4 2), (76, am_ild 5 2), (78, am_ild 6 2), (80, am_callV am_Y 6 78 3), (83, am_lc 0 1), (84, am_lcmp 4 90), (88, am_ic 0 1), (89, am_zret), (90, am_lld 1 1), (91, am_ald 0 1), (92, am_ild 4 2), (94, am_ild 5 2), (96, am_ild 6 2), (98, am_callV am_Y 6 78 3), (101, am_ladd), (102, am_lst 1 1), (103, am_inc 3 (1)), (106, am_goto 4), (109, am_lld 1 1), (110, am_ald 0 1), (111, am_get am_Y 6 7), (114, am_i2l), (115, am_ald 0 1), (116, am_get am_Y 6 1), (119, am_callV am_Y 5 71 0), (122, am_lmul), (123, am_lcmp 1 131), (127, am_ic 1 1), (128, am_goto 132), (131, am_ic 0 1), (132, am_zret)]
set_option maxRecDepth 100000 in
set_option maxHeartbeats 4000000 in
theorem T_Tr_fillTheRoute : am_T am_Y am_cl am_Gw am_mi 89 b_Tr_fillTheRoute := by
  intro E A p l e s m args below meth c Rt X hr
  refine List.forall_mem_cons.mpr ⟨am_lconst_ok (n := 0) X (by decide +kernel), ?_⟩
  refine List.forall_mem_cons.mpr ⟨am_lstore_n_ok (k := 1) X (by decide) (by decide +kernel), ?_⟩
  refine List.forall_mem_cons.mpr ⟨am_iconst_ok X (by decide +kernel), ?_⟩
  refine List.forall_mem_cons.mpr ⟨am_istore_n_ok (k := 3) X (by decide) (by decide +kernel), ?_⟩
  refine List.forall_mem_cons.mpr ⟨am_iload_n_ok (k := 3) X (by decide +kernel), ?_⟩
  refine List.forall_mem_cons.mpr ⟨am_aload_n_ok (k := 0) X (by decide +kernel), ?_⟩
  refine List.forall_mem_cons.mpr ⟨am_get_ok (C := R_Tr) (T := F_Tr) (N := 8) (idx := 15) X rfl (by decide) (fun w h => List.mem_cons_of_mem _ (u_Tr w h)) (List.mem_cons_of_mem _ w_Tr_15) (by decide +kernel), ?_⟩
  refine List.forall_mem_cons.mpr ⟨am_icmp_ge_ok (off := 100) X (by decide +kernel) (by decide), ?_⟩
  refine List.forall_mem_cons.mpr ⟨am_aload_n_ok (k := 0) X (by decide +kernel), ?_⟩
  refine List.forall_mem_cons.mpr ⟨am_get_ok (C := R_Tr) (T := F_Tr) (N := 8) (idx := 35) X rfl (by decide) (fun w h => List.mem_cons_of_mem _ (u_Tr w h)) (List.mem_cons_of_mem _ w_Tr_35) (by decide +kernel), ?_⟩
  refine List.forall_mem_cons.mpr ⟨am_get_ok (C := R_Ro) (T := F_Ro) (N := 4) (idx := 73) X rfl (by decide) (fun w h => List.mem_cons_of_mem _ (u_Ro w h)) (List.mem_cons_of_mem _ w_Tr_73) (by decide +kernel), ?_⟩
  refine List.forall_mem_cons.mpr ⟨am_aload_n_ok (k := 0) X (by decide +kernel), ?_⟩
  refine List.forall_mem_cons.mpr ⟨am_get_ok (C := R_Tr) (T := F_Tr) (N := 8) (idx := 9) X rfl (by decide) (fun w h => List.mem_cons_of_mem _ (u_Tr w h)) (List.mem_cons_of_mem _ w_Tr_9) (by decide +kernel), ?_⟩
  refine List.forall_mem_cons.mpr ⟨am_iload_n_ok (k := 3) X (by decide +kernel), ?_⟩
  refine List.forall_mem_cons.mpr ⟨am_iald_ok X am_Y0 (by decide +kernel), ?_⟩
  refine List.forall_mem_cons.mpr ⟨am_sipush_ok X (by decide +kernel) (by decide), ?_⟩
  refine List.forall_mem_cons.mpr ⟨am_idiv_ok X (by decide +kernel), ?_⟩
  refine List.forall_mem_cons.mpr ⟨am_iald_ok X am_Y0 (by decide +kernel), ?_⟩
  refine List.forall_mem_cons.mpr ⟨am_istore_ok X (by decide) (by decide +kernel), ?_⟩
  refine List.forall_mem_cons.mpr ⟨am_aload_n_ok (k := 0) X (by decide +kernel), ?_⟩
  refine List.forall_mem_cons.mpr ⟨am_get_ok (C := R_Tr) (T := F_Tr) (N := 8) (idx := 35) X rfl (by decide) (fun w h => List.mem_cons_of_mem _ (u_Tr w h)) (List.mem_cons_of_mem _ w_Tr_35) (by decide +kernel), ?_⟩
  refine List.forall_mem_cons.mpr ⟨am_get_ok (C := R_Ro) (T := F_Ro) (N := 4) (idx := 73) X rfl (by decide) (fun w h => List.mem_cons_of_mem _ (u_Ro w h)) (List.mem_cons_of_mem _ w_Tr_73) (by decide +kernel), ?_⟩
  refine List.forall_mem_cons.mpr ⟨am_aload_n_ok (k := 0) X (by decide +kernel), ?_⟩
  refine List.forall_mem_cons.mpr ⟨am_get_ok (C := R_Tr) (T := F_Tr) (N := 8) (idx := 9) X rfl (by decide) (fun w h => List.mem_cons_of_mem _ (u_Tr w h)) (List.mem_cons_of_mem _ w_Tr_9) (by decide +kernel), ?_⟩
  refine List.forall_mem_cons.mpr ⟨am_iload_n_ok (k := 3) X (by decide +kernel), ?_⟩
  refine List.forall_mem_cons.mpr ⟨am_iald_ok X am_Y0 (by decide +kernel), ?_⟩
  refine List.forall_mem_cons.mpr ⟨am_bipush_ok X (by decide +kernel) (by decide), ?_⟩
  refine List.forall_mem_cons.mpr ⟨am_idiv_ok X (by decide +kernel), ?_⟩
  refine List.forall_mem_cons.mpr ⟨am_bipush_ok X (by decide +kernel) (by decide), ?_⟩
  refine List.forall_mem_cons.mpr ⟨am_irem_ok X (by decide +kernel), ?_⟩
  refine List.forall_mem_cons.mpr ⟨am_iald_ok X am_Y0 (by decide +kernel), ?_⟩
  refine List.forall_mem_cons.mpr ⟨am_istore_ok X (by decide) (by decide +kernel), ?_⟩
  refine List.forall_mem_cons.mpr ⟨am_aload_n_ok (k := 0) X (by decide +kernel), ?_⟩
  refine List.forall_mem_cons.mpr ⟨am_get_ok (C := R_Tr) (T := F_Tr) (N := 8) (idx := 35) X rfl (by decide) (fun w h => List.mem_cons_of_mem _ (u_Tr w h)) (List.mem_cons_of_mem _ w_Tr_35) (by decide +kernel), ?_⟩
  refine List.forall_mem_cons.mpr ⟨am_get_ok (C := R_Ro) (T := F_Ro) (N := 4) (idx := 73) X rfl (by decide) (fun w h => List.mem_cons_of_mem _ (u_Ro w h)) (List.mem_cons_of_mem _ w_Tr_73) (by decide +kernel), ?_⟩
  refine List.forall_mem_cons.mpr ⟨am_aload_n_ok (k := 0) X (by decide +kernel), ?_⟩
  refine List.forall_mem_cons.mpr ⟨am_get_ok (C := R_Tr) (T := F_Tr) (N := 8) (idx := 9) X rfl (by decide) (fun w h => List.mem_cons_of_mem _ (u_Tr w h)) (List.mem_cons_of_mem _ w_Tr_9) (by decide +kernel), ?_⟩
  refine List.forall_mem_cons.mpr ⟨am_iload_n_ok (k := 3) X (by decide +kernel), ?_⟩
  refine List.forall_mem_cons.mpr ⟨am_iald_ok X am_Y0 (by decide +kernel), ?_⟩
  refine List.forall_mem_cons.mpr ⟨am_bipush_ok X (by decide +kernel) (by decide), ?_⟩
  refine List.forall_mem_cons.mpr ⟨am_irem_ok X (by decide +kernel), ?_⟩
  refine List.forall_mem_cons.mpr ⟨am_iald_ok X am_Y0 (by decide +kernel), ?_⟩
  refine List.forall_mem_cons.mpr ⟨am_istore_ok X (by decide) (by decide +kernel), ?_⟩
  refine List.forall_mem_cons.mpr ⟨am_aload_n_ok (k := 0) X (by decide +kernel), ?_⟩
  refine List.forall_mem_cons.mpr ⟨am_iload_ok X (by decide +kernel), ?_⟩
  refine List.forall_mem_cons.mpr ⟨am_iload_ok X (by decide +kernel), ?_⟩
  refine List.forall_mem_cons.mpr ⟨am_iload_ok X (by decide +kernel), ?_⟩
  refine List.forall_mem_cons.mpr ⟨am_callV_ok (C := R_Tr) (T := F_Tr) (N := 8) (idx := 76) X rfl (am_GV m_Tr_76 v_Tr_turnInwards.1 v_Tr_turnInwards.2.1 v_Tr_turnInwards.2.2.1 v_Tr_turnInwards.2.2.2) ⟨rfl, v_Tr_turnInwardsd⟩ ⟨by decide, by decide⟩ (Nat.zero_le _) (by decide +kernel), ?_⟩
  refine List.forall_mem_cons.mpr ⟨am_lconst_ok (n := 0) X (by decide +kernel), ?_⟩
  refine List.forall_mem_cons.mpr ⟨am_lcmp_gt_ok (off := 5) X (by decide +kernel) (by decide +kernel) (by decide), ?_⟩
  refine List.forall_mem_cons.mpr ⟨am_iconst_ok X (by decide +kernel), ?_⟩
  refine List.forall_mem_cons.mpr ⟨am_zret_ok X hr (by decide +kernel), ?_⟩
  refine List.forall_mem_cons.mpr ⟨am_lload_n_ok (k := 1) X (by decide +kernel), ?_⟩
  refine List.forall_mem_cons.mpr ⟨am_aload_n_ok (k := 0) X (by decide +kernel), ?_⟩
  refine List.forall_mem_cons.mpr ⟨am_iload_ok X (by decide +kernel), ?_⟩
  refine List.forall_mem_cons.mpr ⟨am_iload_ok X (by decide +kernel), ?_⟩
  refine List.forall_mem_cons.mpr ⟨am_iload_ok X (by decide +kernel), ?_⟩
  refine List.forall_mem_cons.mpr ⟨am_callV_ok (C := R_Tr) (T := F_Tr) (N := 8) (idx := 76) X rfl (am_GV m_Tr_76 v_Tr_turnInwards.1 v_Tr_turnInwards.2.1 v_Tr_turnInwards.2.2.1 v_Tr_turnInwards.2.2.2) ⟨rfl, v_Tr_turnInwardsd⟩ ⟨by decide, by decide⟩ (Nat.zero_le _) (by decide +kernel), ?_⟩
  refine List.forall_mem_cons.mpr ⟨am_ladd_ok X (by decide +kernel), ?_⟩
  refine List.forall_mem_cons.mpr ⟨am_lstore_n_ok (k := 1) X (by decide) (by decide +kernel), ?_⟩
  refine List.forall_mem_cons.mpr ⟨am_iinc_ok X (by decide) (by decide +kernel), ?_⟩
  refine List.forall_mem_cons.mpr ⟨am_goto_ok (off := -102) X (by decide +kernel) (by decide), ?_⟩
  refine List.forall_mem_cons.mpr ⟨am_lload_n_ok (k := 1) X (by decide +kernel), ?_⟩
  refine List.forall_mem_cons.mpr ⟨am_aload_n_ok (k := 0) X (by decide +kernel), ?_⟩
  refine List.forall_mem_cons.mpr ⟨am_get_ok (C := R_Tr) (T := F_Tr) (N := 8) (idx := 28) X rfl (by decide) (fun w h => List.mem_cons_of_mem _ (u_Tr w h)) (List.mem_cons_of_mem _ w_Tr_28) (by decide +kernel), ?_⟩
  refine List.forall_mem_cons.mpr ⟨am_i2l_ok X (by decide +kernel), ?_⟩
  refine List.forall_mem_cons.mpr ⟨am_aload_n_ok (k := 0) X (by decide +kernel), ?_⟩
  refine List.forall_mem_cons.mpr ⟨am_get_ok (C := R_Tr) (T := F_Tr) (N := 8) (idx := 35) X rfl (by decide) (fun w h => List.mem_cons_of_mem _ (u_Tr w h)) (List.mem_cons_of_mem _ w_Tr_35) (by decide +kernel), ?_⟩
  refine List.forall_mem_cons.mpr ⟨am_callV_ok (C := R_Ro) (T := F_Ro) (N := 4) (idx := 45) X rfl (am_GV m_Tr_45 v_Ro_sumRound.1 v_Ro_sumRound.2.1 v_Ro_sumRound.2.2.1 v_Ro_sumRound.2.2.2) ⟨rfl, v_Ro_sumRoundd⟩ ⟨by decide, by decide⟩ (Nat.zero_le _) (by decide +kernel), ?_⟩
  refine List.forall_mem_cons.mpr ⟨am_lmul_ok X (by decide +kernel), ?_⟩
  refine List.forall_mem_cons.mpr ⟨am_lcmp_ne_ok (off := 7) X (by decide +kernel) (by decide +kernel) (by decide), ?_⟩
  refine List.forall_mem_cons.mpr ⟨am_iconst_ok X (by decide +kernel), ?_⟩
  refine List.forall_mem_cons.mpr ⟨am_goto_ok (off := 4) X (by decide +kernel) (by decide), ?_⟩
  refine List.forall_mem_cons.mpr ⟨am_iconst_ok X (by decide +kernel), ?_⟩
  refine List.forall_mem_cons.mpr ⟨am_zret_ok X hr (by decide +kernel), ?_⟩
  exact fun _ h => absurd h List.not_mem_nil
abbrev b_De_check : AT := [(0, am_ald 0 1), (1, am_get am_Y 8 1), (4, am_callV am_Y 1 16 0), (7, am_ald 0 1), (8, am_get am_Y 8 1), (11, am_callV am_Y 1 87 0), (14, am_if 0 39), (17, am_ald 0 1), (18, am_get am_Y 8 1), (21, am_callV am_Y 1 31 0), (24, am_ald 0 1), (25, am_get am_Y 8 1), (28, am_callV am_Y 1 88 0), (31, am_lcmp 1 39), (35, am_ic 1 1), (36, am_goto 40), (39, am_ic 0 1), (40, am_ist 1 1), (41, am_ild 1 1), (42, am_if 0 68), (45, am_ald 0 1), (46, am_callV am_Y 8 68 0), (49, am_if 0 68), (52, am_ald 0 1), (53, am_get am_Y 8 6), (56, am_ic 1 1), (57, am_callV am_Y 6 85 1), (60, am_ald 0 1), (61, am_get am_Y 8 6), (64, am_callV am_Y 6 89 0), (67, am_ist 1 1), (68, am_ild 1 1), (69, am_if 0 76), (72, am_ic 1 1), (73, am_goto 77), (76, am_ic 0 1), (77, am_ret)]
set_option maxRecDepth 100000 in
set_option maxHeartbeats 4000000 in
theorem T_De_check : am_T am_Y am_cl am_Gw am_mi 90 b_De_check := by
  intro E A p l e s m args below meth c Rt X hr
  refine List.forall_mem_cons.mpr ⟨am_aload_n_ok (k := 0) X (by decide +kernel), ?_⟩
  refine List.forall_mem_cons.mpr ⟨am_get_ok (C := R_De) (T := F_De) (N := 7) (idx := 21) X rfl (by decide) (fun w h => List.mem_cons_of_mem _ (u_De w h)) (List.mem_cons_of_mem _ w_De_21) (by decide +kernel), ?_⟩
  refine List.forall_mem_cons.mpr ⟨am_callV_ok (C := R_Hu) (T := F_Hu) (N := 5) (idx := 80) X rfl (am_GV m_De_80 v_Hu_refresh.1 v_Hu_refresh.2.1 v_Hu_refresh.2.2.1 v_Hu_refresh.2.2.2) ⟨rfl, v_Hu_refreshd⟩ ⟨by decide, by decide⟩ (Nat.zero_le _) (by decide +kernel), ?_⟩
  refine List.forall_mem_cons.mpr ⟨am_aload_n_ok (k := 0) X (by decide +kernel), ?_⟩
  refine List.forall_mem_cons.mpr ⟨am_get_ok (C := R_De) (T := F_De) (N := 7) (idx := 21) X rfl (by decide) (fun w h => List.mem_cons_of_mem _ (u_De w h)) (List.mem_cons_of_mem _ w_De_21) (by decide +kernel), ?_⟩
  refine List.forall_mem_cons.mpr ⟨am_callV_ok (C := R_Hu) (T := F_Hu) (N := 5) (idx := 197) X rfl (am_GV m_De_197 v_Hu_holdsAllPoints.1 v_Hu_holdsAllPoints.2.1 v_Hu_holdsAllPoints.2.2.1 v_Hu_holdsAllPoints.2.2.2) ⟨rfl, v_Hu_holdsAllPointsd⟩ ⟨by decide, by decide⟩ (Nat.zero_le _) (by decide +kernel), ?_⟩
  refine List.forall_mem_cons.mpr ⟨am_if_eq_ok (off := 25) X (by decide +kernel) (by decide), ?_⟩
  refine List.forall_mem_cons.mpr ⟨am_aload_n_ok (k := 0) X (by decide +kernel), ?_⟩
  refine List.forall_mem_cons.mpr ⟨am_get_ok (C := R_De) (T := F_De) (N := 7) (idx := 21) X rfl (by decide) (fun w h => List.mem_cons_of_mem _ (u_De w h)) (List.mem_cons_of_mem _ w_De_21) (by decide +kernel), ?_⟩
  refine List.forall_mem_cons.mpr ⟨am_callV_ok (C := R_Hu) (T := F_Hu) (N := 5) (idx := 115) X rfl (am_GV m_De_115 v_Hu_twiceArea.1 v_Hu_twiceArea.2.1 v_Hu_twiceArea.2.2.1 v_Hu_twiceArea.2.2.2) ⟨rfl, v_Hu_twiceAread⟩ ⟨by decide, by decide⟩ (Nat.zero_le _) (by decide +kernel), ?_⟩
  refine List.forall_mem_cons.mpr ⟨am_aload_n_ok (k := 0) X (by decide +kernel), ?_⟩
  refine List.forall_mem_cons.mpr ⟨am_get_ok (C := R_De) (T := F_De) (N := 7) (idx := 21) X rfl (by decide) (fun w h => List.mem_cons_of_mem _ (u_De w h)) (List.mem_cons_of_mem _ w_De_21) (by decide +kernel), ?_⟩
  refine List.forall_mem_cons.mpr ⟨am_callV_ok (C := R_Hu) (T := F_Hu) (N := 5) (idx := 200) X rfl (am_GV m_De_200 v_Hu_sumRound.1 v_Hu_sumRound.2.1 v_Hu_sumRound.2.2.1 v_Hu_sumRound.2.2.2) ⟨rfl, v_Hu_sumRoundd⟩ ⟨by decide, by decide⟩ (Nat.zero_le _) (by decide +kernel), ?_⟩
  refine List.forall_mem_cons.mpr ⟨am_lcmp_ne_ok (off := 7) X (by decide +kernel) (by decide +kernel) (by decide), ?_⟩
  refine List.forall_mem_cons.mpr ⟨am_iconst_ok X (by decide +kernel), ?_⟩
  refine List.forall_mem_cons.mpr ⟨am_goto_ok (off := 4) X (by decide +kernel) (by decide), ?_⟩
  refine List.forall_mem_cons.mpr ⟨am_iconst_ok X (by decide +kernel), ?_⟩
  refine List.forall_mem_cons.mpr ⟨am_istore_n_ok (k := 1) X (by decide) (by decide +kernel), ?_⟩
  refine List.forall_mem_cons.mpr ⟨am_iload_n_ok (k := 1) X (by decide +kernel), ?_⟩
  refine List.forall_mem_cons.mpr ⟨am_if_eq_ok (off := 26) X (by decide +kernel) (by decide), ?_⟩
  refine List.forall_mem_cons.mpr ⟨am_aload_n_ok (k := 0) X (by decide +kernel), ?_⟩
  refine List.forall_mem_cons.mpr ⟨am_callV_ok (C := R_De) (T := F_De) (N := 7) (idx := 182) X rfl (am_GV m_De_182 v_De_isRouteSimple.1 v_De_isRouteSimple.2.1 v_De_isRouteSimple.2.2.1 v_De_isRouteSimple.2.2.2) ⟨rfl, v_De_isRouteSimpled⟩ ⟨by decide, by decide⟩ (Nat.zero_le _) (by decide +kernel), ?_⟩
  refine List.forall_mem_cons.mpr ⟨am_if_eq_ok (off := 19) X (by decide +kernel) (by decide), ?_⟩
  refine List.forall_mem_cons.mpr ⟨am_aload_n_ok (k := 0) X (by decide +kernel), ?_⟩
  refine List.forall_mem_cons.mpr ⟨am_get_ok (C := R_De) (T := F_De) (N := 7) (idx := 60) X rfl (by decide) (fun w h => List.mem_cons_of_mem _ (u_De w h)) (List.mem_cons_of_mem _ w_De_60) (by decide +kernel), ?_⟩
  refine List.forall_mem_cons.mpr ⟨am_iconst_ok X (by decide +kernel), ?_⟩
  refine List.forall_mem_cons.mpr ⟨am_callV_ok (C := R_Tr) (T := F_Tr) (N := 8) (idx := 190) X rfl (am_GV m_De_190 v_Tr_refresh.1 v_Tr_refresh.2.1 v_Tr_refresh.2.2.1 v_Tr_refresh.2.2.2) ⟨rfl, v_Tr_refreshd⟩ ⟨by decide, by decide⟩ (Nat.zero_le _) (by decide +kernel), ?_⟩
  refine List.forall_mem_cons.mpr ⟨am_aload_n_ok (k := 0) X (by decide +kernel), ?_⟩
  refine List.forall_mem_cons.mpr ⟨am_get_ok (C := R_De) (T := F_De) (N := 7) (idx := 60) X rfl (by decide) (fun w h => List.mem_cons_of_mem _ (u_De w h)) (List.mem_cons_of_mem _ w_De_60) (by decide +kernel), ?_⟩
  refine List.forall_mem_cons.mpr ⟨am_callV_ok (C := R_Tr) (T := F_Tr) (N := 8) (idx := 201) X rfl (am_GV m_De_201 v_Tr_fillTheRoute.1 v_Tr_fillTheRoute.2.1 v_Tr_fillTheRoute.2.2.1 v_Tr_fillTheRoute.2.2.2) ⟨rfl, v_Tr_fillTheRouted⟩ ⟨by decide, by decide⟩ (Nat.zero_le _) (by decide +kernel), ?_⟩
  refine List.forall_mem_cons.mpr ⟨am_istore_n_ok (k := 1) X (by decide) (by decide +kernel), ?_⟩
  refine List.forall_mem_cons.mpr ⟨am_iload_n_ok (k := 1) X (by decide +kernel), ?_⟩
  refine List.forall_mem_cons.mpr ⟨am_if_eq_ok (off := 7) X (by decide +kernel) (by decide), ?_⟩
  refine List.forall_mem_cons.mpr ⟨am_iconst_ok X (by decide +kernel), ?_⟩
  refine List.forall_mem_cons.mpr ⟨am_goto_ok (off := 4) X (by decide +kernel) (by decide), ?_⟩
  refine List.forall_mem_cons.mpr ⟨am_iconst_ok X (by decide +kernel), ?_⟩
  refine List.forall_mem_cons.mpr ⟨am_ret_ok X hr (by decide +kernel), ?_⟩
  exact fun _ h => absurd h List.not_mem_nil
abbrev b_Mo_thrown : AT := [(0, am_ald 0 1), (1, am_get am_Y 9 0), (4, am_ret)]
set_option maxRecDepth 100000 in
set_option maxHeartbeats 4000000 in
theorem T_Mo_thrown : am_T am_Y am_cl am_Gw am_mi 91 b_Mo_thrown := by
  intro E A p l e s m args below meth c Rt X hr
  refine List.forall_mem_cons.mpr ⟨am_aload_n_ok (k := 0) X (by decide +kernel), ?_⟩
  refine List.forall_mem_cons.mpr ⟨am_get_ok (C := R_Mo) (T := F_Mo) (N := 13) (idx := 39) X rfl (by decide) (fun w h => List.mem_cons_of_mem _ (u_Mo w h)) (List.mem_cons_of_mem _ w_Mo_39) (by decide +kernel), ?_⟩
  refine List.forall_mem_cons.mpr ⟨am_ret_ok X hr (by decide +kernel), ?_⟩
  exact fun _ h => absurd h List.not_mem_nil
abbrev b_Mo_isFar : AT := [(0, am_ild 0 1), (1, am_ic (-100000) 2), (3, am_icmp 2 12), (6, am_ild 0 1), (7, am_ic (100000) 2), (9, am_icmp 5 16), (12, am_ic 1 1), (13, am_goto 17), (16, am_ic 0 1), (17, am_zret)]
set_option maxRecDepth 100000 in
set_option maxHeartbeats 4000000 in
theorem T_Mo_isFar : am_T am_Y am_cl am_Gw am_mi 92 b_Mo_isFar := by
  intro E A p l e s m args below meth c Rt X hr
  refine List.forall_mem_cons.mpr ⟨am_iload_n_ok (k := 0) X (by decide +kernel), ?_⟩
  refine List.forall_mem_cons.mpr ⟨am_ldc_ok (i := 50) X (by decide +kernel) (List.mem_cons_of_mem _ (am_Gin 865 (by decide +kernel) (by decide +kernel))), ?_⟩
  refine List.forall_mem_cons.mpr ⟨am_icmp_lt_ok (off := 9) X (by decide +kernel) (by decide), ?_⟩
  refine List.forall_mem_cons.mpr ⟨am_iload_n_ok (k := 0) X (by decide +kernel), ?_⟩
  refine List.forall_mem_cons.mpr ⟨am_ldc_ok (i := 51) X (by decide +kernel) (List.mem_cons_of_mem _ (am_Gin 866 (by decide +kernel) (by decide +kernel))), ?_⟩
  refine List.forall_mem_cons.mpr ⟨am_icmp_le_ok (off := 7) X (by decide +kernel) (by decide), ?_⟩
  refine List.forall_mem_cons.mpr ⟨am_iconst_ok X (by decide +kernel), ?_⟩
  refine List.forall_mem_cons.mpr ⟨am_goto_ok (off := 4) X (by decide +kernel) (by decide), ?_⟩
  refine List.forall_mem_cons.mpr ⟨am_iconst_ok X (by decide +kernel), ?_⟩
  refine List.forall_mem_cons.mpr ⟨am_zret_ok X hr (by decide +kernel), ?_⟩
  exact fun _ h => absurd h List.not_mem_nil
abbrev b_Mo_add : AT := [(0, am_ald 0 1), (1, am_ic 0 1), (2, am_put am_Y 9 0), (5, am_ild 1 1), (6, am_callS 92 1), (9, am_if 1 28), (12, am_ild 2 1), (13, am_callS 92 1), (16, am_if 1 28), (19, am_ald 0 1), (20, am_get am_Y 9 3), (23, am_ic (60) 2), (25, am_icmp 1 30), (28, am_ic (-1) 1), (29, am_ret), (30, am_ald 0 1), (31, am_get am_Y 9 1), (34, am_ald 0 1), (35, am_get am_Y 9 3), (38, am_ild 1 1), (39, am_iast am_Y), (40, am_ald 0 1), (41, am_get am_Y 9 2), (44, am_ald 0 1), (45, am_get am_Y 9 3), (48, am_ild 2 1), (49, am_iast am_Y), (50, am_ald 0 1), (51, am_dup), (52, am_get am_Y 9 3), (55, am_ic 1 1), (56, am_iadd), (57, am_put am_Y 9 3), (60, am_ald 0 1), (61, am_get am_Y 9 3), (64, am_ic 1 1), (65, am_isub), (66, am_ret)]
set_option maxRecDepth 100000 in
set_option maxHeartbeats 4000000 in
theorem T_Mo_add : am_T am_Y am_cl am_Gw am_mi 93 b_Mo_add := by
  intro E A p l e s m args below meth c Rt X hr
  refine List.forall_mem_cons.mpr ⟨am_aload_n_ok (k := 0) X (by decide +kernel), ?_⟩
  refine List.forall_mem_cons.mpr ⟨am_iconst_ok X (by decide +kernel), ?_⟩
  refine List.forall_mem_cons.mpr ⟨am_put_ok (C := R_Mo) (T := F_Mo) (N := 13) (idx := 39) X rfl (by decide) (fun w h => List.mem_cons_of_mem _ (u_Mo w h)) t_Mo_ok n_Mo rfl (by decide +kernel) (List.mem_cons_of_mem _ w_Mo_39) (by decide +kernel), ?_⟩
  refine List.forall_mem_cons.mpr ⟨am_iload_n_ok (k := 1) X (by decide +kernel), ?_⟩
  refine List.forall_mem_cons.mpr ⟨am_callS_ok (idx := 43) X (am_GS m_Mo_43 v_Mo_isFar.1 v_Mo_isFar.2.1 v_Mo_isFar.2.2) ⟨rfl, v_Mo_isFard⟩ ⟨by decide, by decide⟩ (by decide +kernel), ?_⟩
  refine List.forall_mem_cons.mpr ⟨am_if_ne_ok (off := 19) X (by decide +kernel) (by decide), ?_⟩
  refine List.forall_mem_cons.mpr ⟨am_iload_n_ok (k := 2) X (by decide +kernel), ?_⟩
  refine List.forall_mem_cons.mpr ⟨am_callS_ok (idx := 43) X (am_GS m_Mo_43 v_Mo_isFar.1 v_Mo_isFar.2.1 v_Mo_isFar.2.2) ⟨rfl, v_Mo_isFard⟩ ⟨by decide, by decide⟩ (by decide +kernel), ?_⟩
  refine List.forall_mem_cons.mpr ⟨am_if_ne_ok (off := 12) X (by decide +kernel) (by decide), ?_⟩
  refine List.forall_mem_cons.mpr ⟨am_aload_n_ok (k := 0) X (by decide +kernel), ?_⟩
  refine List.forall_mem_cons.mpr ⟨am_get_ok (C := R_Mo) (T := F_Mo) (N := 13) (idx := 47) X rfl (by decide) (fun w h => List.mem_cons_of_mem _ (u_Mo w h)) (List.mem_cons_of_mem _ w_Mo_47) (by decide +kernel), ?_⟩
  refine List.forall_mem_cons.mpr ⟨am_bipush_ok X (by decide +kernel) (by decide), ?_⟩
  refine List.forall_mem_cons.mpr ⟨am_icmp_ne_ok (off := 5) X (by decide +kernel) (by decide), ?_⟩
  refine List.forall_mem_cons.mpr ⟨am_iconst_ok X (by decide +kernel), ?_⟩
  refine List.forall_mem_cons.mpr ⟨am_ret_ok X hr (by decide +kernel), ?_⟩
  refine List.forall_mem_cons.mpr ⟨am_aload_n_ok (k := 0) X (by decide +kernel), ?_⟩
  refine List.forall_mem_cons.mpr ⟨am_get_ok (C := R_Mo) (T := F_Mo) (N := 13) (idx := 7) X rfl (by decide) (fun w h => List.mem_cons_of_mem _ (u_Mo w h)) (List.mem_cons_of_mem _ w_Mo_7) (by decide +kernel), ?_⟩
  refine List.forall_mem_cons.mpr ⟨am_aload_n_ok (k := 0) X (by decide +kernel), ?_⟩
  refine List.forall_mem_cons.mpr ⟨am_get_ok (C := R_Mo) (T := F_Mo) (N := 13) (idx := 47) X rfl (by decide) (fun w h => List.mem_cons_of_mem _ (u_Mo w h)) (List.mem_cons_of_mem _ w_Mo_47) (by decide +kernel), ?_⟩
  refine List.forall_mem_cons.mpr ⟨am_iload_n_ok (k := 1) X (by decide +kernel), ?_⟩
  refine List.forall_mem_cons.mpr ⟨am_iast_ok X am_Y0 (by decide +kernel), ?_⟩
  refine List.forall_mem_cons.mpr ⟨am_aload_n_ok (k := 0) X (by decide +kernel), ?_⟩
  refine List.forall_mem_cons.mpr ⟨am_get_ok (C := R_Mo) (T := F_Mo) (N := 13) (idx := 13) X rfl (by decide) (fun w h => List.mem_cons_of_mem _ (u_Mo w h)) (List.mem_cons_of_mem _ w_Mo_13) (by decide +kernel), ?_⟩
  refine List.forall_mem_cons.mpr ⟨am_aload_n_ok (k := 0) X (by decide +kernel), ?_⟩
  refine List.forall_mem_cons.mpr ⟨am_get_ok (C := R_Mo) (T := F_Mo) (N := 13) (idx := 47) X rfl (by decide) (fun w h => List.mem_cons_of_mem _ (u_Mo w h)) (List.mem_cons_of_mem _ w_Mo_47) (by decide +kernel), ?_⟩
  refine List.forall_mem_cons.mpr ⟨am_iload_n_ok (k := 2) X (by decide +kernel), ?_⟩
  refine List.forall_mem_cons.mpr ⟨am_iast_ok X am_Y0 (by decide +kernel), ?_⟩
  refine List.forall_mem_cons.mpr ⟨am_aload_n_ok (k := 0) X (by decide +kernel), ?_⟩
  refine List.forall_mem_cons.mpr ⟨am_dup_ok X (by decide +kernel), ?_⟩
  refine List.forall_mem_cons.mpr ⟨am_get_ok (C := R_Mo) (T := F_Mo) (N := 13) (idx := 47) X rfl (by decide) (fun w h => List.mem_cons_of_mem _ (u_Mo w h)) (List.mem_cons_of_mem _ w_Mo_47) (by decide +kernel), ?_⟩
  refine List.forall_mem_cons.mpr ⟨am_iconst_ok X (by decide +kernel), ?_⟩
  refine List.forall_mem_cons.mpr ⟨am_iadd_ok X (by decide +kernel), ?_⟩
  refine List.forall_mem_cons.mpr ⟨am_put_ok (C := R_Mo) (T := F_Mo) (N := 13) (idx := 47) X rfl (by decide) (fun w h => List.mem_cons_of_mem _ (u_Mo w h)) t_Mo_ok n_Mo rfl (by decide +kernel) (List.mem_cons_of_mem _ w_Mo_47) (by decide +kernel), ?_⟩
  refine List.forall_mem_cons.mpr ⟨am_aload_n_ok (k := 0) X (by decide +kernel), ?_⟩
  refine List.forall_mem_cons.mpr ⟨am_get_ok (C := R_Mo) (T := F_Mo) (N := 13) (idx := 47) X rfl (by decide) (fun w h => List.mem_cons_of_mem _ (u_Mo w h)) (List.mem_cons_of_mem _ w_Mo_47) (by decide +kernel), ?_⟩
  refine List.forall_mem_cons.mpr ⟨am_iconst_ok X (by decide +kernel), ?_⟩
  refine List.forall_mem_cons.mpr ⟨am_isub_ok X (by decide +kernel), ?_⟩
  refine List.forall_mem_cons.mpr ⟨am_ret_ok X hr (by decide +kernel), ?_⟩
  exact fun _ h => absurd h List.not_mem_nil
abbrev b_Mo_clear : AT := [(0, am_ald 0 1), (1, am_ic 0 1), (2, am_put am_Y 9 0), (5, am_ald 0 1), (6, am_get am_Y 9 3), (9, am_ist 1 1), (10, am_ald 0 1), (11, am_ic 0 1), (12, am_put am_Y 9 3), (15, am_ald 0 1), (16, am_ic 0 1), (17, am_put am_Y 9 5), (20, am_ild 1 1), (21, am_ret)]
set_option maxRecDepth 100000 in
set_option maxHeartbeats 4000000 in
theorem T_Mo_clear : am_T am_Y am_cl am_Gw am_mi 94 b_Mo_clear := by
  intro E A p l e s m args below meth c Rt X hr
  refine List.forall_mem_cons.mpr ⟨am_aload_n_ok (k := 0) X (by decide +kernel), ?_⟩
  refine List.forall_mem_cons.mpr ⟨am_iconst_ok X (by decide +kernel), ?_⟩
  refine List.forall_mem_cons.mpr ⟨am_put_ok (C := R_Mo) (T := F_Mo) (N := 13) (idx := 39) X rfl (by decide) (fun w h => List.mem_cons_of_mem _ (u_Mo w h)) t_Mo_ok n_Mo rfl (by decide +kernel) (List.mem_cons_of_mem _ w_Mo_39) (by decide +kernel), ?_⟩
  refine List.forall_mem_cons.mpr ⟨am_aload_n_ok (k := 0) X (by decide +kernel), ?_⟩
  refine List.forall_mem_cons.mpr ⟨am_get_ok (C := R_Mo) (T := F_Mo) (N := 13) (idx := 47) X rfl (by decide) (fun w h => List.mem_cons_of_mem _ (u_Mo w h)) (List.mem_cons_of_mem _ w_Mo_47) (by decide +kernel), ?_⟩
  refine List.forall_mem_cons.mpr ⟨am_istore_n_ok (k := 1) X (by decide) (by decide +kernel), ?_⟩
  refine List.forall_mem_cons.mpr ⟨am_aload_n_ok (k := 0) X (by decide +kernel), ?_⟩
  refine List.forall_mem_cons.mpr ⟨am_iconst_ok X (by decide +kernel), ?_⟩
  refine List.forall_mem_cons.mpr ⟨am_put_ok (C := R_Mo) (T := F_Mo) (N := 13) (idx := 47) X rfl (by decide) (fun w h => List.mem_cons_of_mem _ (u_Mo w h)) t_Mo_ok n_Mo rfl (by decide +kernel) (List.mem_cons_of_mem _ w_Mo_47) (by decide +kernel), ?_⟩
  refine List.forall_mem_cons.mpr ⟨am_aload_n_ok (k := 0) X (by decide +kernel), ?_⟩
  refine List.forall_mem_cons.mpr ⟨am_iconst_ok X (by decide +kernel), ?_⟩
  refine List.forall_mem_cons.mpr ⟨am_put_ok (C := R_Mo) (T := F_Mo) (N := 13) (idx := 52) X rfl (by decide) (fun w h => List.mem_cons_of_mem _ (u_Mo w h)) t_Mo_ok n_Mo rfl (by decide +kernel) (List.mem_cons_of_mem _ w_Mo_52) (by decide +kernel), ?_⟩
  refine List.forall_mem_cons.mpr ⟨am_iload_n_ok (k := 1) X (by decide +kernel), ?_⟩
  refine List.forall_mem_cons.mpr ⟨am_ret_ok X hr (by decide +kernel), ?_⟩
  exact fun _ h => absurd h List.not_mem_nil
abbrev b_Mo_c : AT := [(0, am_ald 0 1), (1, am_get am_Y 9 1), (4, am_ild 2 1), (5, am_iald am_Y), (6, am_ald 0 1), (7, am_get am_Y 9 1), (10, am_ild 1 1), (11, am_iald am_Y), (12, am_isub), (13, am_i2l), (14, am_ild 4 2), (16, am_ald 0 1), (17, am_get am_Y 9 2), (20, am_ild 1 1), (21, am_iald am_Y), (22, am_isub), (23, am_i2l), (24, am_lmul), (25, am_ald 0 1), (26, am_get am_Y 9 2), (29, am_ild 2 1), (30, am_iald am_Y), (31, am_ald 0 1), (32, am_get am_Y 9 2), (35, am_ild 1 1), (36, am_iald am_Y), (37, am_isub), (38, am_i2l), (39, am_ild 3 1), (40, am_ald 0 1), (41, am_get am_Y 9 1), (44, am_ild 1 1), (45, am_iald am_Y), (46, am_isub), (47, am_i2l), (48, am_lmul), (49, am_lsub), (50, am_lret)]
set_option maxRecDepth 100000 in
set_option maxHeartbeats 4000000 in
theorem T_Mo_c : am_T am_Y am_cl am_Gw am_mi 95 b_Mo_c := by
  intro E A p l e s m args below meth c Rt X hr
  refine List.forall_mem_cons.mpr ⟨am_aload_n_ok (k := 0) X (by decide +kernel), ?_⟩
  refine List.forall_mem_cons.mpr ⟨am_get_ok (C := R_Mo) (T := F_Mo) (N := 13) (idx := 7) X rfl (by decide) (fun w h => List.mem_cons_of_mem _ (u_Mo w h)) (List.mem_cons_of_mem _ w_Mo_7) (by decide +kernel), ?_⟩
  refine List.forall_mem_cons.mpr ⟨am_iload_n_ok (k := 2) X (by decide +kernel), ?_⟩
  refine List.forall_mem_cons.mpr ⟨am_iald_ok X am_Y0 (by decide +kernel), ?_⟩
  refine List.forall_mem_cons.mpr ⟨am_aload_n_ok (k := 0) X (by decide +kernel), ?_⟩
  refine List.forall_mem_cons.mpr ⟨am_get_ok (C := R_Mo) (T := F_Mo) (N := 13) (idx := 7) X rfl (by decide) (fun w h => List.mem_cons_of_mem _ (u_Mo w h)) (List.mem_cons_of_mem _ w_Mo_7) (by decide +kernel), ?_⟩
  refine List.forall_mem_cons.mpr ⟨am_iload_n_ok (k := 1) X (by decide +kernel), ?_⟩
  refine List.forall_mem_cons.mpr ⟨am_iald_ok X am_Y0 (by decide +kernel), ?_⟩
  refine List.forall_mem_cons.mpr ⟨am_isub_ok X (by decide +kernel), ?_⟩
  refine List.forall_mem_cons.mpr ⟨am_i2l_ok X (by decide +kernel), ?_⟩
  refine List.forall_mem_cons.mpr ⟨am_iload_ok X (by decide +kernel), ?_⟩
  refine List.forall_mem_cons.mpr ⟨am_aload_n_ok (k := 0) X (by decide +kernel), ?_⟩
  refine List.forall_mem_cons.mpr ⟨am_get_ok (C := R_Mo) (T := F_Mo) (N := 13) (idx := 13) X rfl (by decide) (fun w h => List.mem_cons_of_mem _ (u_Mo w h)) (List.mem_cons_of_mem _ w_Mo_13) (by decide +kernel), ?_⟩
  refine List.forall_mem_cons.mpr ⟨am_iload_n_ok (k := 1) X (by decide +kernel), ?_⟩
  refine List.forall_mem_cons.mpr ⟨am_iald_ok X am_Y0 (by decide +kernel), ?_⟩
  refine List.forall_mem_cons.mpr ⟨am_isub_ok X (by decide +kernel), ?_⟩
  refine List.forall_mem_cons.mpr ⟨am_i2l_ok X (by decide +kernel), ?_⟩
  refine List.forall_mem_cons.mpr ⟨am_lmul_ok X (by decide +kernel), ?_⟩
  refine List.forall_mem_cons.mpr ⟨am_aload_n_ok (k := 0) X (by decide +kernel), ?_⟩
  refine List.forall_mem_cons.mpr ⟨am_get_ok (C := R_Mo) (T := F_Mo) (N := 13) (idx := 13) X rfl (by decide) (fun w h => List.mem_cons_of_mem _ (u_Mo w h)) (List.mem_cons_of_mem _ w_Mo_13) (by decide +kernel), ?_⟩
  refine List.forall_mem_cons.mpr ⟨am_iload_n_ok (k := 2) X (by decide +kernel), ?_⟩
  refine List.forall_mem_cons.mpr ⟨am_iald_ok X am_Y0 (by decide +kernel), ?_⟩
  refine List.forall_mem_cons.mpr ⟨am_aload_n_ok (k := 0) X (by decide +kernel), ?_⟩
  refine List.forall_mem_cons.mpr ⟨am_get_ok (C := R_Mo) (T := F_Mo) (N := 13) (idx := 13) X rfl (by decide) (fun w h => List.mem_cons_of_mem _ (u_Mo w h)) (List.mem_cons_of_mem _ w_Mo_13) (by decide +kernel), ?_⟩
  refine List.forall_mem_cons.mpr ⟨am_iload_n_ok (k := 1) X (by decide +kernel), ?_⟩
  refine List.forall_mem_cons.mpr ⟨am_iald_ok X am_Y0 (by decide +kernel), ?_⟩
  refine List.forall_mem_cons.mpr ⟨am_isub_ok X (by decide +kernel), ?_⟩
  refine List.forall_mem_cons.mpr ⟨am_i2l_ok X (by decide +kernel), ?_⟩
  refine List.forall_mem_cons.mpr ⟨am_iload_n_ok (k := 3) X (by decide +kernel), ?_⟩
  refine List.forall_mem_cons.mpr ⟨am_aload_n_ok (k := 0) X (by decide +kernel), ?_⟩
  refine List.forall_mem_cons.mpr ⟨am_get_ok (C := R_Mo) (T := F_Mo) (N := 13) (idx := 7) X rfl (by decide) (fun w h => List.mem_cons_of_mem _ (u_Mo w h)) (List.mem_cons_of_mem _ w_Mo_7) (by decide +kernel), ?_⟩
  refine List.forall_mem_cons.mpr ⟨am_iload_n_ok (k := 1) X (by decide +kernel), ?_⟩
  refine List.forall_mem_cons.mpr ⟨am_iald_ok X am_Y0 (by decide +kernel), ?_⟩
  refine List.forall_mem_cons.mpr ⟨am_isub_ok X (by decide +kernel), ?_⟩
  refine List.forall_mem_cons.mpr ⟨am_i2l_ok X (by decide +kernel), ?_⟩
  refine List.forall_mem_cons.mpr ⟨am_lmul_ok X (by decide +kernel), ?_⟩
  refine List.forall_mem_cons.mpr ⟨am_lsub_ok X (by decide +kernel), ?_⟩
  refine List.forall_mem_cons.mpr ⟨am_lret_ok X hr (by decide +kernel), ?_⟩
  exact fun _ h => absurd h List.not_mem_nil
abbrev b_Mo_turnOf : AT := [(0, am_ald 0 1), (1, am_ild 1 1), (2, am_ild 2 1), (3, am_ald 0 1), (4, am_get am_Y 9 1), (7, am_ild 3 1), (8, am_iald am_Y), (9, am_ald 0 1), (10, am_get am_Y 9 2), (13, am_ild 3 1), (14, am_iald am_Y), (15, am_callV am_Y 9 95 4), (18, am_lret)]
set_option maxRecDepth 100000 in
set_option maxHeartbeats 4000000 in
theorem T_Mo_turnOf : am_T am_Y am_cl am_Gw am_mi 96 b_Mo_turnOf := by
  intro E A p l e s m args below meth c Rt X hr
  refine List.forall_mem_cons.mpr ⟨am_aload_n_ok (k := 0) X (by decide +kernel), ?_⟩
  refine List.forall_mem_cons.mpr ⟨am_iload_n_ok (k := 1) X (by decide +kernel), ?_⟩
  refine List.forall_mem_cons.mpr ⟨am_iload_n_ok (k := 2) X (by decide +kernel), ?_⟩
  refine List.forall_mem_cons.mpr ⟨am_aload_n_ok (k := 0) X (by decide +kernel), ?_⟩
  refine List.forall_mem_cons.mpr ⟨am_get_ok (C := R_Mo) (T := F_Mo) (N := 13) (idx := 7) X rfl (by decide) (fun w h => List.mem_cons_of_mem _ (u_Mo w h)) (List.mem_cons_of_mem _ w_Mo_7) (by decide +kernel), ?_⟩
  refine List.forall_mem_cons.mpr ⟨am_iload_n_ok (k := 3) X (by decide +kernel), ?_⟩
  refine List.forall_mem_cons.mpr ⟨am_iald_ok X am_Y0 (by decide +kernel), ?_⟩
  refine List.forall_mem_cons.mpr ⟨am_aload_n_ok (k := 0) X (by decide +kernel), ?_⟩
  refine List.forall_mem_cons.mpr ⟨am_get_ok (C := R_Mo) (T := F_Mo) (N := 13) (idx := 13) X rfl (by decide) (fun w h => List.mem_cons_of_mem _ (u_Mo w h)) (List.mem_cons_of_mem _ w_Mo_13) (by decide +kernel), ?_⟩
  refine List.forall_mem_cons.mpr ⟨am_iload_n_ok (k := 3) X (by decide +kernel), ?_⟩
  refine List.forall_mem_cons.mpr ⟨am_iald_ok X am_Y0 (by decide +kernel), ?_⟩
  refine List.forall_mem_cons.mpr ⟨am_callV_ok (C := R_Mo) (T := F_Mo) (N := 13) (idx := 55) X rfl (am_GV m_Mo_55 v_Mo_c.1 v_Mo_c.2.1 v_Mo_c.2.2.1 v_Mo_c.2.2.2) ⟨rfl, v_Mo_cd⟩ ⟨by decide, by decide⟩ (Nat.zero_le _) (by decide +kernel), ?_⟩
  refine List.forall_mem_cons.mpr ⟨am_lret_ok X hr (by decide +kernel), ?_⟩
  exact fun _ h => absurd h List.not_mem_nil
abbrev b_Mo_farOf : AT := [(0, am_ald 0 1), (1, am_get am_Y 9 1), (4, am_ild 1 1), (5, am_iald am_Y), (6, am_ild 2 1), (7, am_isub), (8, am_i2l), (9, am_ald 0 1), (10, am_get am_Y 9 1), (13, am_ild 1 1), (14, am_iald am_Y), (15, am_ild 2 1), (16, am_isub), (17, am_i2l), (18, am_lmul), (19, am_ald 0 1), (20, am_get am_Y 9 2), (23, am_ild 1 1), (24, am_iald am_Y), (25, am_ild 3 1), (26, am_isub), (27, am_i2l), (28, am_ald 0 1), (29, am_get am_Y 9 2), (32, am_ild 1 1), (33, am_iald am_Y), (34, am_ild 3 1), (35, am_isub), (36, am_i2l), (37, am_lmul), (38, am_ladd), (39, am_lret)]
set_option maxRecDepth 100000 in
set_option maxHeartbeats 4000000 in
theorem T_Mo_farOf : am_T am_Y am_cl am_Gw am_mi 97 b_Mo_farOf := by
  intro E A p l e s m args below meth c Rt X hr
  refine List.forall_mem_cons.mpr ⟨am_aload_n_ok (k := 0) X (by decide +kernel), ?_⟩
  refine List.forall_mem_cons.mpr ⟨am_get_ok (C := R_Mo) (T := F_Mo) (N := 13) (idx := 7) X rfl (by decide) (fun w h => List.mem_cons_of_mem _ (u_Mo w h)) (List.mem_cons_of_mem _ w_Mo_7) (by decide +kernel), ?_⟩
  refine List.forall_mem_cons.mpr ⟨am_iload_n_ok (k := 1) X (by decide +kernel), ?_⟩
  refine List.forall_mem_cons.mpr ⟨am_iald_ok X am_Y0 (by decide +kernel), ?_⟩
  refine List.forall_mem_cons.mpr ⟨am_iload_n_ok (k := 2) X (by decide +kernel), ?_⟩
  refine List.forall_mem_cons.mpr ⟨am_isub_ok X (by decide +kernel), ?_⟩
  refine List.forall_mem_cons.mpr ⟨am_i2l_ok X (by decide +kernel), ?_⟩
  refine List.forall_mem_cons.mpr ⟨am_aload_n_ok (k := 0) X (by decide +kernel), ?_⟩
  refine List.forall_mem_cons.mpr ⟨am_get_ok (C := R_Mo) (T := F_Mo) (N := 13) (idx := 7) X rfl (by decide) (fun w h => List.mem_cons_of_mem _ (u_Mo w h)) (List.mem_cons_of_mem _ w_Mo_7) (by decide +kernel), ?_⟩
  refine List.forall_mem_cons.mpr ⟨am_iload_n_ok (k := 1) X (by decide +kernel), ?_⟩
  refine List.forall_mem_cons.mpr ⟨am_iald_ok X am_Y0 (by decide +kernel), ?_⟩
  refine List.forall_mem_cons.mpr ⟨am_iload_n_ok (k := 2) X (by decide +kernel), ?_⟩
  refine List.forall_mem_cons.mpr ⟨am_isub_ok X (by decide +kernel), ?_⟩
  refine List.forall_mem_cons.mpr ⟨am_i2l_ok X (by decide +kernel), ?_⟩
  refine List.forall_mem_cons.mpr ⟨am_lmul_ok X (by decide +kernel), ?_⟩
  refine List.forall_mem_cons.mpr ⟨am_aload_n_ok (k := 0) X (by decide +kernel), ?_⟩
  refine List.forall_mem_cons.mpr ⟨am_get_ok (C := R_Mo) (T := F_Mo) (N := 13) (idx := 13) X rfl (by decide) (fun w h => List.mem_cons_of_mem _ (u_Mo w h)) (List.mem_cons_of_mem _ w_Mo_13) (by decide +kernel), ?_⟩
  refine List.forall_mem_cons.mpr ⟨am_iload_n_ok (k := 1) X (by decide +kernel), ?_⟩
  refine List.forall_mem_cons.mpr ⟨am_iald_ok X am_Y0 (by decide +kernel), ?_⟩
  refine List.forall_mem_cons.mpr ⟨am_iload_n_ok (k := 3) X (by decide +kernel), ?_⟩
  refine List.forall_mem_cons.mpr ⟨am_isub_ok X (by decide +kernel), ?_⟩
  refine List.forall_mem_cons.mpr ⟨am_i2l_ok X (by decide +kernel), ?_⟩
  refine List.forall_mem_cons.mpr ⟨am_aload_n_ok (k := 0) X (by decide +kernel), ?_⟩
  refine List.forall_mem_cons.mpr ⟨am_get_ok (C := R_Mo) (T := F_Mo) (N := 13) (idx := 13) X rfl (by decide) (fun w h => List.mem_cons_of_mem _ (u_Mo w h)) (List.mem_cons_of_mem _ w_Mo_13) (by decide +kernel), ?_⟩
  refine List.forall_mem_cons.mpr ⟨am_iload_n_ok (k := 1) X (by decide +kernel), ?_⟩
  refine List.forall_mem_cons.mpr ⟨am_iald_ok X am_Y0 (by decide +kernel), ?_⟩
  refine List.forall_mem_cons.mpr ⟨am_iload_n_ok (k := 3) X (by decide +kernel), ?_⟩
  refine List.forall_mem_cons.mpr ⟨am_isub_ok X (by decide +kernel), ?_⟩
  refine List.forall_mem_cons.mpr ⟨am_i2l_ok X (by decide +kernel), ?_⟩
  refine List.forall_mem_cons.mpr ⟨am_lmul_ok X (by decide +kernel), ?_⟩
  refine List.forall_mem_cons.mpr ⟨am_ladd_ok X (by decide +kernel), ?_⟩
  refine List.forall_mem_cons.mpr ⟨am_lret_ok X hr (by decide +kernel), ?_⟩
  exact fun _ h => absurd h List.not_mem_nil
