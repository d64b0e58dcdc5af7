/-! printed: tables of the methods -/
abbrev b_Mo_pair : AT := [(0, am_ald 0 1), (1, am_ic 0 1), (2, am_put am_Y 9 0), (5, am_ic (-1) 1), (6, am_ist 2 1), (7, am_lc 0 1), (8, am_lst 3 1), (9, am_ic 0 1), (10, am_ist 5 2), (12, am_ild 5 2), (14, am_ald 0 1), (15, am_get am_Y 9 3), (18, am_icmp 3 116), (21, am_ild 1 1), (22, am_if 0 30), (25, am_ild 1 1), (26, am_ic 1 1), (27, am_icmp 1 116), (30, am_ild 5 2), (32, am_ic 1 1), (33, am_iadd), (34, am_ist 6 2), (36, am_ild 6 2), (38, am_ald 0 1), (39, am_get am_Y 9 3), (42, am_icmp 3 110), (45, am_ald 0 1), (46, am_ild 5 2), (48, am_ald 0 1), (49, am_get am_Y 9 1), (52, am_ild 6 2), (54, am_iald am_Y), (55, am_ald 0 1), (56, am_get am_Y 9 2), (59, am_ild 6 2), (61, am_iald am_Y), (62, am_callV am_Y 9 97 3), (65, am_lst 7 2), (67, am_ild 2 1), (68, am_if 2 92), (71, am_ild 1 1), (72, am_if 1 85), (75, am_lld 7 2), (77, am_lld 3 1), (78, am_lcmp 5 104), (82, am_goto 92), (85, am_lld 7 2), (87, am_lld 3 1), (88, am_lcmp 3 104), (92, am_ic (64) 2), (94, am_ild 5 2), (96, am_imul), (97, am_ild 6 2), (99, am_iadd), (100, am_ist 2 1), (101, am_lld 7 2), (103, am_lst 3 1), (104, am_inc 6 (1)), (107, am_goto 36), (110, am_inc 5 (1)), (113, am_goto 12), (116, am_ild 2 1), (117, am_ret)]
set_option maxRecDepth 100000 in
set_option maxHeartbeats 4000000 in
theorem T_Mo_pair : am_T am_Y am_cl am_Gw am_mi 115 b_Mo_pair := by
  intro E A p l e s m args below meth c Rt X hr
  refine List.forall_mem_cons.mpr ⟨am_aload_n_ok (k := 0) X (by decide +kernel), ?_⟩
  refine List.forall_mem_cons.mpr ⟨am_iconst_ok X (by decide +kernel), ?_⟩
  refine List.forall_mem_cons.mpr ⟨am_put_ok (C := R_Mo) (T := F_Mo) (N := 13) (idx := 39) X rfl (by decide) (fun w h => List.mem_cons_of_mem _ (u_Mo w h)) t_Mo_ok n_Mo rfl (by decide +kernel) (List.mem_cons_of_mem _ w_Mo_39) (by decide +kernel), ?_⟩
  refine List.forall_mem_cons.mpr ⟨am_iconst_ok X (by decide +kernel), ?_⟩
  refine List.forall_mem_cons.mpr ⟨am_istore_n_ok (k := 2) X (by decide) (by decide +kernel), ?_⟩
  refine List.forall_mem_cons.mpr ⟨am_lconst_ok (n := 0) X (by decide +kernel), ?_⟩
  refine List.forall_mem_cons.mpr ⟨am_lstore_n_ok (k := 3) X (by decide) (by decide +kernel), ?_⟩
  refine List.forall_mem_cons.mpr ⟨am_iconst_ok X (by decide +kernel), ?_⟩
  refine List.forall_mem_cons.mpr ⟨am_istore_ok X (by decide) (by decide +kernel), ?_⟩
  refine List.forall_mem_cons.mpr ⟨am_iload_ok X (by decide +kernel), ?_⟩
  refine List.forall_mem_cons.mpr ⟨am_aload_n_ok (k := 0) X (by decide +kernel), ?_⟩
  refine List.forall_mem_cons.mpr ⟨am_get_ok (C := R_Mo) (T := F_Mo) (N := 13) (idx := 47) X rfl (by decide) (fun w h => List.mem_cons_of_mem _ (u_Mo w h)) (List.mem_cons_of_mem _ w_Mo_47) (by decide +kernel), ?_⟩
  refine List.forall_mem_cons.mpr ⟨am_icmp_ge_ok (off := 98) X (by decide +kernel) (by decide), ?_⟩
  refine List.forall_mem_cons.mpr ⟨am_iload_n_ok (k := 1) X (by decide +kernel), ?_⟩
  refine List.forall_mem_cons.mpr ⟨am_if_eq_ok (off := 8) X (by decide +kernel) (by decide), ?_⟩
  refine List.forall_mem_cons.mpr ⟨am_iload_n_ok (k := 1) X (by decide +kernel), ?_⟩
  refine List.forall_mem_cons.mpr ⟨am_iconst_ok X (by decide +kernel), ?_⟩
  refine List.forall_mem_cons.mpr ⟨am_icmp_ne_ok (off := 89) X (by decide +kernel) (by decide), ?_⟩
  refine List.forall_mem_cons.mpr ⟨am_iload_ok X (by decide +kernel), ?_⟩
  refine List.forall_mem_cons.mpr ⟨am_iconst_ok X (by decide +kernel), ?_⟩
  refine List.forall_mem_cons.mpr ⟨am_iadd_ok X (by decide +kernel), ?_⟩
  refine List.forall_mem_cons.mpr ⟨am_istore_ok X (by decide) (by decide +kernel), ?_⟩
  refine List.forall_mem_cons.mpr ⟨am_iload_ok X (by decide +kernel), ?_⟩
  refine List.forall_mem_cons.mpr ⟨am_aload_n_ok (k := 0) X (by decide +kernel), ?_⟩
  refine List.forall_mem_cons.mpr ⟨am_get_ok (C := R_Mo) (T := F_Mo) (N := 13) (idx := 47) X rfl (by decide) (fun w h => List.mem_cons_of_mem _ (u_Mo w h)) (List.mem_cons_of_mem _ w_Mo_47) (by decide +kernel), ?_⟩
  refine List.forall_mem_cons.mpr ⟨am_icmp_ge_ok (off := 68) X (by decide +kernel) (by decide), ?_⟩
  refine List.forall_mem_cons.mpr ⟨am_aload_n_ok (k := 0) X (by decide +kernel), ?_⟩
  refine List.forall_mem_cons.mpr ⟨am_iload_ok X (by decide +kernel), ?_⟩
  refine List.forall_mem_cons.mpr ⟨am_aload_n_ok (k := 0) X (by decide +kernel), ?_⟩
  refine List.forall_mem_cons.mpr ⟨am_get_ok (C := R_Mo) (T := F_Mo) (N := 13) (idx := 7) X rfl (by decide) (fun w h => List.mem_cons_of_mem _ (u_Mo w h)) (List.mem_cons_of_mem _ w_Mo_7) (by decide +kernel), ?_⟩
  refine List.forall_mem_cons.mpr ⟨am_iload_ok X (by decide +kernel), ?_⟩
  refine List.forall_mem_cons.mpr ⟨am_iald_ok X am_Y0 (by decide +kernel), ?_⟩
  refine List.forall_mem_cons.mpr ⟨am_aload_n_ok (k := 0) X (by decide +kernel), ?_⟩
  refine List.forall_mem_cons.mpr ⟨am_get_ok (C := R_Mo) (T := F_Mo) (N := 13) (idx := 13) X rfl (by decide) (fun w h => List.mem_cons_of_mem _ (u_Mo w h)) (List.mem_cons_of_mem _ w_Mo_13) (by decide +kernel), ?_⟩
  refine List.forall_mem_cons.mpr ⟨am_iload_ok X (by decide +kernel), ?_⟩
  refine List.forall_mem_cons.mpr ⟨am_iald_ok X am_Y0 (by decide +kernel), ?_⟩
  refine List.forall_mem_cons.mpr ⟨am_callV_ok (C := R_Mo) (T := F_Mo) (N := 13) (idx := 80) X rfl (am_GV m_Mo_80 v_Mo_farOf.1 v_Mo_farOf.2.1 v_Mo_farOf.2.2.1 v_Mo_farOf.2.2.2) ⟨rfl, v_Mo_farOfd⟩ ⟨by decide, by decide⟩ (Nat.zero_le _) (by decide +kernel), ?_⟩
  refine List.forall_mem_cons.mpr ⟨am_lstore_ok X (by decide) (by decide +kernel), ?_⟩
  refine List.forall_mem_cons.mpr ⟨am_iload_n_ok (k := 2) X (by decide +kernel), ?_⟩
  refine List.forall_mem_cons.mpr ⟨am_if_lt_ok (off := 24) X (by decide +kernel) (by decide), ?_⟩
  refine List.forall_mem_cons.mpr ⟨am_iload_n_ok (k := 1) X (by decide +kernel), ?_⟩
  refine List.forall_mem_cons.mpr ⟨am_if_ne_ok (off := 13) X (by decide +kernel) (by decide), ?_⟩
  refine List.forall_mem_cons.mpr ⟨am_lload_ok X (by decide +kernel), ?_⟩
  refine List.forall_mem_cons.mpr ⟨am_lload_n_ok (k := 3) X (by decide +kernel), ?_⟩
  refine List.forall_mem_cons.mpr ⟨am_lcmp_le_ok (off := 25) X (by decide +kernel) (by decide +kernel) (by decide), ?_⟩
  refine List.forall_mem_cons.mpr ⟨am_goto_ok (off := 10) X (by decide +kernel) (by decide), ?_⟩
  refine List.forall_mem_cons.mpr ⟨am_lload_ok X (by decide +kernel), ?_⟩
  refine List.forall_mem_cons.mpr ⟨am_lload_n_ok (k := 3) X (by decide +kernel), ?_⟩
  refine List.forall_mem_cons.mpr ⟨am_lcmp_ge_ok (off := 15) X (by decide +kernel) (by decide +kernel) (by decide), ?_⟩
  refine List.forall_mem_cons.mpr ⟨am_bipush_ok X (by decide +kernel) (by decide), ?_⟩
  refine List.forall_mem_cons.mpr ⟨am_iload_ok X (by decide +kernel), ?_⟩
  refine List.forall_mem_cons.mpr ⟨am_imul_ok X (by decide +kernel), ?_⟩
  refine List.forall_mem_cons.mpr ⟨am_iload_ok X (by decide +kernel), ?_⟩
  refine List.forall_mem_cons.mpr ⟨am_iadd_ok X (by decide +kernel), ?_⟩
  refine List.forall_mem_cons.mpr ⟨am_istore_n_ok (k := 2) X (by decide) (by decide +kernel), ?_⟩
  refine List.forall_mem_cons.mpr ⟨am_lload_ok X (by decide +kernel), ?_⟩
  refine List.forall_mem_cons.mpr ⟨am_lstore_n_ok (k := 3) X (by decide) (by decide +kernel), ?_⟩
  refine List.forall_mem_cons.mpr ⟨am_iinc_ok X (by decide) (by decide +kernel), ?_⟩
  refine List.forall_mem_cons.mpr ⟨am_goto_ok (off := -71) X (by decide +kernel) (by decide), ?_⟩
  refine List.forall_mem_cons.mpr ⟨am_iinc_ok X (by decide) (by decide +kernel), ?_⟩
  refine List.forall_mem_cons.mpr ⟨am_goto_ok (off := -101) X (by decide +kernel) (by decide), ?_⟩
  refine List.forall_mem_cons.mpr ⟨am_iload_n_ok (k := 2) X (by decide +kernel), ?_⟩
  refine List.forall_mem_cons.mpr ⟨am_ret_ok X hr (by decide +kernel), ?_⟩
  exact fun _ h => absurd h List.not_mem_nil
abbrev b_Mo_distance : AT := [(0, am_ald 0 1), (1, am_ald 0 1), (2, am_ild 1 1), (3, am_callV am_Y 9 110 1), (6, am_if 0 21), (9, am_ald 0 1), (10, am_ild 2 1), (11, am_callV am_Y 9 110 1), (14, am_if 0 21), (17, am_ic 0 1), (18, am_goto 22), (21, am_ic 1 1), (22, am_put am_Y 9 0), (25, am_ald 0 1), (26, am_get am_Y 9 0), (29, am_if 5 36), (32, am_lc 0 1), (33, am_goto 53), (36, am_ald 0 1), (37, am_ild 1 1), (38, am_ald 0 1), (39, am_get am_Y 9 1), (42, am_ild 2 1), (43, am_iald am_Y), (44, am_ald 0 1), (45, am_get am_Y 9 2), (48, am_ild 2 1), (49, am_iald am_Y), (50, am_callV am_Y 9 97 3), (53, am_lret)]
set_option maxRecDepth 100000 in
set_option maxHeartbeats 4000000 in
theorem T_Mo_distance : am_T am_Y am_cl am_Gw am_mi 116 b_Mo_distance := by
  intro E A p l e s m args below meth c Rt X hr
  refine List.forall_mem_cons.mpr ⟨am_aload_n_ok (k := 0) X (by decide +kernel), ?_⟩
  refine List.forall_mem_cons.mpr ⟨am_aload_n_ok (k := 0) X (by decide +kernel), ?_⟩
  refine List.forall_mem_cons.mpr ⟨am_iload_n_ok (k := 1) X (by decide +kernel), ?_⟩
  refine List.forall_mem_cons.mpr ⟨am_callV_ok (C := R_Mo) (T := F_Mo) (N := 13) (idx := 110) X rfl (am_GV m_Mo_110 v_Mo_isPoint.1 v_Mo_isPoint.2.1 v_Mo_isPoint.2.2.1 v_Mo_isPoint.2.2.2) ⟨rfl, v_Mo_isPointd⟩ ⟨by decide, by decide⟩ (Nat.zero_le _) (by decide +kernel), ?_⟩
  refine List.forall_mem_cons.mpr ⟨am_if_eq_ok (off := 15) X (by decide +kernel) (by decide), ?_⟩
  refine List.forall_mem_cons.mpr ⟨am_aload_n_ok (k := 0) X (by decide +kernel), ?_⟩
  refine List.forall_mem_cons.mpr ⟨am_iload_n_ok (k := 2) X (by decide +kernel), ?_⟩
  refine List.forall_mem_cons.mpr ⟨am_callV_ok (C := R_Mo) (T := F_Mo) (N := 13) (idx := 110) X rfl (am_GV m_Mo_110 v_Mo_isPoint.1 v_Mo_isPoint.2.1 v_Mo_isPoint.2.2.1 v_Mo_isPoint.2.2.2) ⟨rfl, v_Mo_isPointd⟩ ⟨by decide, by decide⟩ (Nat.zero_le _) (by decide +kernel), ?_⟩
  refine List.forall_mem_cons.mpr ⟨am_if_eq_ok (off := 7) X (by decide +kernel) (by decide), ?_⟩
  refine List.forall_mem_cons.mpr ⟨am_iconst_ok X (by decide +kernel), ?_⟩
  refine List.forall_mem_cons.mpr ⟨am_goto_ok (off := 4) X (by decide +kernel) (by decide), ?_⟩
  refine List.forall_mem_cons.mpr ⟨am_iconst_ok X (by decide +kernel), ?_⟩
  refine List.forall_mem_cons.mpr ⟨am_put_ok (C := R_Mo) (T := F_Mo) (N := 13) (idx := 39) X rfl (by decide) (fun w h => List.mem_cons_of_mem _ (u_Mo w h)) t_Mo_ok n_Mo rfl (by decide +kernel) (List.mem_cons_of_mem _ w_Mo_39) (by decide +kernel), ?_⟩
  refine List.forall_mem_cons.mpr ⟨am_aload_n_ok (k := 0) X (by decide +kernel), ?_⟩
  refine List.forall_mem_cons.mpr ⟨am_get_ok (C := R_Mo) (T := F_Mo) (N := 13) (idx := 39) X rfl (by decide) (fun w h => List.mem_cons_of_mem _ (u_Mo w h)) (List.mem_cons_of_mem _ w_Mo_39) (by decide +kernel), ?_⟩
  refine List.forall_mem_cons.mpr ⟨am_if_le_ok (off := 7) X (by decide +kernel) (by decide), ?_⟩
  refine List.forall_mem_cons.mpr ⟨am_lconst_ok (n := 0) X (by decide +kernel), ?_⟩
  refine List.forall_mem_cons.mpr ⟨am_goto_ok (off := 20) X (by decide +kernel) (by decide), ?_⟩
  refine List.forall_mem_cons.mpr ⟨am_aload_n_ok (k := 0) X (by decide +kernel), ?_⟩
  refine List.forall_mem_cons.mpr ⟨am_iload_n_ok (k := 1) X (by decide +kernel), ?_⟩
  refine List.forall_mem_cons.mpr ⟨am_aload_n_ok (k := 0) X (by decide +kernel), ?_⟩
  refine List.forall_mem_cons.mpr ⟨am_get_ok (C := R_Mo) (T := F_Mo) (N := 13) (idx := 7) X rfl (by decide) (fun w h => List.mem_cons_of_mem _ (u_Mo w h)) (List.mem_cons_of_mem _ w_Mo_7) (by decide +kernel), ?_⟩
  refine List.forall_mem_cons.mpr ⟨am_iload_n_ok (k := 2) X (by decide +kernel), ?_⟩
  refine List.forall_mem_cons.mpr ⟨am_iald_ok X am_Y0 (by decide +kernel), ?_⟩
  refine List.forall_mem_cons.mpr ⟨am_aload_n_ok (k := 0) X (by decide +kernel), ?_⟩
  refine List.forall_mem_cons.mpr ⟨am_get_ok (C := R_Mo) (T := F_Mo) (N := 13) (idx := 13) X rfl (by decide) (fun w h => List.mem_cons_of_mem _ (u_Mo w h)) (List.mem_cons_of_mem _ w_Mo_13) (by decide +kernel), ?_⟩
  refine List.forall_mem_cons.mpr ⟨am_iload_n_ok (k := 2) X (by decide +kernel), ?_⟩
  refine List.forall_mem_cons.mpr ⟨am_iald_ok X am_Y0 (by decide +kernel), ?_⟩
  refine List.forall_mem_cons.mpr ⟨am_callV_ok (C := R_Mo) (T := F_Mo) (N := 13) (idx := 80) X rfl (am_GV m_Mo_80 v_Mo_farOf.1 v_Mo_farOf.2.1 v_Mo_farOf.2.2.1 v_Mo_farOf.2.2.2) ⟨rfl, v_Mo_farOfd⟩ ⟨by decide, by decide⟩ (Nat.zero_le _) (by decide +kernel), ?_⟩
  refine List.forall_mem_cons.mpr ⟨am_lret_ok X hr (by decide +kernel), ?_⟩
  exact fun _ h => absurd h List.not_mem_nil
abbrev b_Mo_heightOf : AT := [(0, am_lc 0 1), (1, am_lst 2 1), (2, am_ic 0 1), (3, am_ist 4 2), (5, am_ild 4 2), (7, am_ald 0 1), (8, am_get am_Y 9 8), (11, am_icmp 3 63), (14, am_ald 0 1), (15, am_ald 0 1), (16, am_get am_Y 9 7), (19, am_ild 1 1), (20, am_iald am_Y), (21, am_ald 0 1), (22, am_get am_Y 9 7), (25, am_ald 0 1), (26, am_ild 1 1), (27, am_callV am_Y 9 101 1), (30, am_iald am_Y), (31, am_ald 0 1), (32, am_get am_Y 9 7), (35, am_ild 4 2), (37, am_iald am_Y), (38, am_callV am_Y 9 96 3), (41, am_lst 5 2), (43, am_lld 5 2), (45, am_lld 2 1), (46, am_lcmp 5 55), (50, am_lld 5 2), (52, am_goto 56), (55, am_lld 2 1), (56, am_lst 2 1), (57, am_inc 4 (1)), (60, am_goto 5), (63, am_lld 2 1), (64, am_lret)]
set_option maxRecDepth 100000 in
set_option maxHeartbeats 4000000 in
theorem T_Mo_heightOf : am_T am_Y am_cl am_Gw am_mi 117 b_Mo_heightOf := by
  intro E A p l e s m args below meth c Rt X hr
  refine List.forall_mem_cons.mpr ⟨am_lconst_ok (n := 0) X (by decide +kernel), ?_⟩
  refine List.forall_mem_cons.mpr ⟨am_lstore_n_ok (k := 2) X (by decide) (by decide +kernel), ?_⟩
  refine List.forall_mem_cons.mpr ⟨am_iconst_ok X (by decide +kernel), ?_⟩
  refine List.forall_mem_cons.mpr ⟨am_istore_ok X (by decide) (by decide +kernel), ?_⟩
  refine List.forall_mem_cons.mpr ⟨am_iload_ok X (by decide +kernel), ?_⟩
  refine List.forall_mem_cons.mpr ⟨am_aload_n_ok (k := 0) X (by decide +kernel), ?_⟩
  refine List.forall_mem_cons.mpr ⟨am_get_ok (C := R_Mo) (T := F_Mo) (N := 13) (idx := 63) X rfl (by decide) (fun w h => List.mem_cons_of_mem _ (u_Mo w h)) (List.mem_cons_of_mem _ w_Mo_63) (by decide +kernel), ?_⟩
  refine List.forall_mem_cons.mpr ⟨am_icmp_ge_ok (off := 52) X (by decide +kernel) (by decide), ?_⟩
  refine List.forall_mem_cons.mpr ⟨am_aload_n_ok (k := 0) X (by decide +kernel), ?_⟩
  refine List.forall_mem_cons.mpr ⟨am_aload_n_ok (k := 0) X (by decide +kernel), ?_⟩
  refine List.forall_mem_cons.mpr ⟨am_get_ok (C := R_Mo) (T := F_Mo) (N := 13) (idx := 23) X rfl (by decide) (fun w h => List.mem_cons_of_mem _ (u_Mo w h)) (List.mem_cons_of_mem _ w_Mo_23) (by decide +kernel), ?_⟩
  refine List.forall_mem_cons.mpr ⟨am_iload_n_ok (k := 1) X (by decide +kernel), ?_⟩
  refine List.forall_mem_cons.mpr ⟨am_iald_ok X am_Y0 (by decide +kernel), ?_⟩
  refine List.forall_mem_cons.mpr ⟨am_aload_n_ok (k := 0) X (by decide +kernel), ?_⟩
  refine List.forall_mem_cons.mpr ⟨am_get_ok (C := R_Mo) (T := F_Mo) (N := 13) (idx := 23) X rfl (by decide) (fun w h => List.mem_cons_of_mem _ (u_Mo w h)) (List.mem_cons_of_mem _ w_Mo_23) (by decide +kernel), ?_⟩
  refine List.forall_mem_cons.mpr ⟨am_aload_n_ok (k := 0) X (by decide +kernel), ?_⟩
  refine List.forall_mem_cons.mpr ⟨am_iload_n_ok (k := 1) X (by decide +kernel), ?_⟩
  refine List.forall_mem_cons.mpr ⟨am_callV_ok (C := R_Mo) (T := F_Mo) (N := 13) (idx := 87) X rfl (am_GV m_Mo_87 v_Mo_next.1 v_Mo_next.2.1 v_Mo_next.2.2.1 v_Mo_next.2.2.2) ⟨rfl, v_Mo_nextd⟩ ⟨by decide, by decide⟩ (Nat.zero_le _) (by decide +kernel), ?_⟩
  refine List.forall_mem_cons.mpr ⟨am_iald_ok X am_Y0 (by decide +kernel), ?_⟩
  refine List.forall_mem_cons.mpr ⟨am_aload_n_ok (k := 0) X (by decide +kernel), ?_⟩
  refine List.forall_mem_cons.mpr ⟨am_get_ok (C := R_Mo) (T := F_Mo) (N := 13) (idx := 23) X rfl (by decide) (fun w h => List.mem_cons_of_mem _ (u_Mo w h)) (List.mem_cons_of_mem _ w_Mo_23) (by decide +kernel), ?_⟩
  refine List.forall_mem_cons.mpr ⟨am_iload_ok X (by decide +kernel), ?_⟩
  refine List.forall_mem_cons.mpr ⟨am_iald_ok X am_Y0 (by decide +kernel), ?_⟩
  refine List.forall_mem_cons.mpr ⟨am_callV_ok (C := R_Mo) (T := F_Mo) (N := 13) (idx := 76) X rfl (am_GV m_Mo_76 v_Mo_turnOf.1 v_Mo_turnOf.2.1 v_Mo_turnOf.2.2.1 v_Mo_turnOf.2.2.2) ⟨rfl, v_Mo_turnOfd⟩ ⟨by decide, by decide⟩ (Nat.zero_le _) (by decide +kernel), ?_⟩
  refine List.forall_mem_cons.mpr ⟨am_lstore_ok X (by decide) (by decide +kernel), ?_⟩
  refine List.forall_mem_cons.mpr ⟨am_lload_ok X (by decide +kernel), ?_⟩
  refine List.forall_mem_cons.mpr ⟨am_lload_n_ok (k := 2) X (by decide +kernel), ?_⟩
  refine List.forall_mem_cons.mpr ⟨am_lcmp_le_ok (off := 8) X (by decide +kernel) (by decide +kernel) (by decide), ?_⟩
  refine List.forall_mem_cons.mpr ⟨am_lload_ok X (by decide +kernel), ?_⟩
  refine List.forall_mem_cons.mpr ⟨am_goto_ok (off := 4) X (by decide +kernel) (by decide), ?_⟩
  refine List.forall_mem_cons.mpr ⟨am_lload_n_ok (k := 2) X (by decide +kernel), ?_⟩
  refine List.forall_mem_cons.mpr ⟨am_lstore_n_ok (k := 2) X (by decide) (by decide +kernel), ?_⟩
  refine List.forall_mem_cons.mpr ⟨am_iinc_ok X (by decide) (by decide +kernel), ?_⟩
  refine List.forall_mem_cons.mpr ⟨am_goto_ok (off := -55) X (by decide +kernel) (by decide), ?_⟩
  refine List.forall_mem_cons.mpr ⟨am_lload_n_ok (k := 2) X (by decide +kernel), ?_⟩
  refine List.forall_mem_cons.mpr ⟨am_lret_ok X hr (by decide +kernel), ?_⟩
  exact fun _ h => absurd h List.not_mem_nil
abbrev b_Mo_lengthOf : AT := [(0, am_ald 0 1), (1, am_ald 0 1), (2, am_get am_Y 9 7), (5, am_ild 1 1), (6, am_iald am_Y), (7, am_ald 0 1), (8, am_get am_Y 9 1), (11, am_ald 0 1), (12, am_get am_Y 9 7), (15, am_ald 0 1), (16, am_ild 1 1), (17, am_callV am_Y 9 101 1), (20, am_iald am_Y), (21, am_iald am_Y), (22, am_ald 0 1), (23, am_get am_Y 9 2), (26, am_ald 0 1), (27, am_get am_Y 9 7), (30, am_ald 0 1), (31, am_ild 1 1), (32, am_callV am_Y 9 101 1), (35, am_iald am_Y), (36, am_iald am_Y), (37, am_callV am_Y 9 97 3), (40, am_lret)]
set_option maxRecDepth 100000 in
set_option maxHeartbeats 4000000 in
theorem T_Mo_lengthOf : am_T am_Y am_cl am_Gw am_mi 118 b_Mo_lengthOf := by
  intro E A p l e s m args below meth c Rt X hr
  refine List.forall_mem_cons.mpr ⟨am_aload_n_ok (k := 0) X (by decide +kernel), ?_⟩
  refine List.forall_mem_cons.mpr ⟨am_aload_n_ok (k := 0) X (by decide +kernel), ?_⟩
  refine List.forall_mem_cons.mpr ⟨am_get_ok (C := R_Mo) (T := F_Mo) (N := 13) (idx := 23) X rfl (by decide) (fun w h => List.mem_cons_of_mem _ (u_Mo w h)) (List.mem_cons_of_mem _ w_Mo_23) (by decide +kernel), ?_⟩
  refine List.forall_mem_cons.mpr ⟨am_iload_n_ok (k := 1) X (by decide +kernel), ?_⟩
  refine List.forall_mem_cons.mpr ⟨am_iald_ok X am_Y0 (by decide +kernel), ?_⟩
  refine List.forall_mem_cons.mpr ⟨am_aload_n_ok (k := 0) X (by decide +kernel), ?_⟩
  refine List.forall_mem_cons.mpr ⟨am_get_ok (C := R_Mo) (T := F_Mo) (N := 13) (idx := 7) X rfl (by decide) (fun w h => List.mem_cons_of_mem _ (u_Mo w h)) (List.mem_cons_of_mem _ w_Mo_7) (by decide +kernel), ?_⟩
  refine List.forall_mem_cons.mpr ⟨am_aload_n_ok (k := 0) X (by decide +kernel), ?_⟩
  refine List.forall_mem_cons.mpr ⟨am_get_ok (C := R_Mo) (T := F_Mo) (N := 13) (idx := 23) X rfl (by decide) (fun w h => List.mem_cons_of_mem _ (u_Mo w h)) (List.mem_cons_of_mem _ w_Mo_23) (by decide +kernel), ?_⟩
  refine List.forall_mem_cons.mpr ⟨am_aload_n_ok (k := 0) X (by decide +kernel), ?_⟩
  refine List.forall_mem_cons.mpr ⟨am_iload_n_ok (k := 1) X (by decide +kernel), ?_⟩
  refine List.forall_mem_cons.mpr ⟨am_callV_ok (C := R_Mo) (T := F_Mo) (N := 13) (idx := 87) X rfl (am_GV m_Mo_87 v_Mo_next.1 v_Mo_next.2.1 v_Mo_next.2.2.1 v_Mo_next.2.2.2) ⟨rfl, v_Mo_nextd⟩ ⟨by decide, by decide⟩ (Nat.zero_le _) (by decide +kernel), ?_⟩
  refine List.forall_mem_cons.mpr ⟨am_iald_ok X am_Y0 (by decide +kernel), ?_⟩
  refine List.forall_mem_cons.mpr ⟨am_iald_ok X am_Y0 (by decide +kernel), ?_⟩
  refine List.forall_mem_cons.mpr ⟨am_aload_n_ok (k := 0) X (by decide +kernel), ?_⟩
  refine List.forall_mem_cons.mpr ⟨am_get_ok (C := R_Mo) (T := F_Mo) (N := 13) (idx := 13) X rfl (by decide) (fun w h => List.mem_cons_of_mem _ (u_Mo w h)) (List.mem_cons_of_mem _ w_Mo_13) (by decide +kernel), ?_⟩
  refine List.forall_mem_cons.mpr ⟨am_aload_n_ok (k := 0) X (by decide +kernel), ?_⟩
  refine List.forall_mem_cons.mpr ⟨am_get_ok (C := R_Mo) (T := F_Mo) (N := 13) (idx := 23) X rfl (by decide) (fun w h => List.mem_cons_of_mem _ (u_Mo w h)) (List.mem_cons_of_mem _ w_Mo_23) (by decide +kernel), ?_⟩
  refine List.forall_mem_cons.mpr ⟨am_aload_n_ok (k := 0) X (by decide +kernel), ?_⟩
  refine List.forall_mem_cons.mpr ⟨am_iload_n_ok (k := 1) X (by decide +kernel), ?_⟩
  refine List.forall_mem_cons.mpr ⟨am_callV_ok (C := R_Mo) (T := F_Mo) (N := 13) (idx := 87) X rfl (am_GV m_Mo_87 v_Mo_next.1 v_Mo_next.2.1 v_Mo_next.2.2.1 v_Mo_next.2.2.2) ⟨rfl, v_Mo_nextd⟩ ⟨by decide, by decide⟩ (Nat.zero_le _) (by decide +kernel), ?_⟩
  refine List.forall_mem_cons.mpr ⟨am_iald_ok X am_Y0 (by decide +kernel), ?_⟩
  refine List.forall_mem_cons.mpr ⟨am_iald_ok X am_Y0 (by decide +kernel), ?_⟩
  refine List.forall_mem_cons.mpr ⟨am_callV_ok (C := R_Mo) (T := F_Mo) (N := 13) (idx := 80) X rfl (am_GV m_Mo_80 v_Mo_farOf.1 v_Mo_farOf.2.1 v_Mo_farOf.2.2.1 v_Mo_farOf.2.2.2) ⟨rfl, v_Mo_farOfd⟩ ⟨by decide, by decide⟩ (Nat.zero_le _) (by decide +kernel), ?_⟩
  refine List.forall_mem_cons.mpr ⟨am_lret_ok X hr (by decide +kernel), ?_⟩
  exact fun _ h => absurd h List.not_mem_nil
abbrev b_Mo_spanOf : AT := [(0, am_ald 0 1), (1, am_get am_Y 9 7), (4, am_ild 1 1), (5, am_iald am_Y), (6, am_ist 2 1), (7, am_ald 0 1), (8, am_get am_Y 9 7), (11, am_ald 0 1), (12, am_ild 1 1), (13, am_callV am_Y 9 101 1), (16, am_iald am_Y), (17, am_ist 3 1), (18, am_lc 0 1), (19, am_lst 4 2), (21, am_lc 0 1), (22, am_lst 6 2), (24, am_ic 0 1), (25, am_ist 8 2), (27, am_ild 8 2), (29, am_ald 0 1), (30, am_get am_Y 9 8), (33, am_icmp 3 148), (36, am_ald 0 1), (37, am_get am_Y 9 7), (40, am_ild 8 2), (42, am_iald am_Y), (43, am_ist 9 2), (45, am_ald 0 1), (46, am_get am_Y 9 1), (49, am_ild 3 1), (50, am_iald am_Y), (51, am_ald 0 1), (52, am_get am_Y 9 1), (55, am_ild 2 1), (56, am_iald am_Y), (57, am_isub), (58, am_i2l), (59, am_ald 0 1), (60, am_get am_Y 9 1), (63, am_ild 9 2), (65, am_iald am_Y), (66, am_ald 0 1), (67, am_get am_Y 9 1), (70, am_ild 2 1), (71, am_iald am_Y), (72, am_isub), (73, am_i2l), (74, am_lmul), (75, am_ald 0 1), (76, am_get am_Y 9 2), (79, am_ild 3 1), (80, am_iald am_Y), (81, am_ald 0 1), (82, am_get am_Y 9 2), (85, am_ild 2 1), (86, am_iald am_Y), (87, am_isub), (88, am_i2l), (89, am_ald 0 1), (90, am_get am_Y 9 2), (93, am_ild 9 2), (95, am_iald am_Y), (96, am_ald 0 1), (97, am_get am_Y 9 2), (100, am_ild 2 1), (101, am_iald am_Y), (102, am_isub), (103, am_i2l), (104, am_lmul), (105, am_ladd), (106, am_lst 10 2), (108, am_lld 10 2), (110, am_lld 4 2), (112, am_lcmp 3 121), (116, am_lld 10 2), (118, am_goto 123), (121, am_lld 4 2), (123, am_lst 4 2), (125, am_lld 10 2), (127, am_lld 6 2), (129, am_lcmp 5 138), (133, am_lld 10 2), (135, am_goto 140), (138, am_lld 6 2), (140, am_lst 6 2), (142, am_inc 8 (1)), (145, am_goto 27), (148, am_lld 6 2), (150, am_lld 4 2), (152, am_lsub), (153, am_lret)]
set_option maxRecDepth 100000 in
set_option maxHeartbeats 4000000 in
theorem T_Mo_spanOf : am_T am_Y am_cl am_Gw am_mi 119 b_Mo_spanOf := by
  intro E A p l e s m args below meth c Rt X hr
  refine List.forall_mem_cons.mpr ⟨am_aload_n_ok (k := 0) X (by decide +kernel), ?_⟩
  refine List.forall_mem_cons.mpr ⟨am_get_ok (C := R_Mo) (T := F_Mo) (N := 13) (idx := 23) X rfl (by decide) (fun w h => List.mem_cons_of_mem _ (u_Mo w h)) (List.mem_cons_of_mem _ w_Mo_23) (by decide +kernel), ?_⟩
  refine List.forall_mem_cons.mpr ⟨am_iload_n_ok (k := 1) X (by decide +kernel), ?_⟩
  refine List.forall_mem_cons.mpr ⟨am_iald_ok X am_Y0 (by decide +kernel), ?_⟩
  refine List.forall_mem_cons.mpr ⟨am_istore_n_ok (k := 2) X (by decide) (by decide +kernel), ?_⟩
  refine List.forall_mem_cons.mpr ⟨am_aload_n_ok (k := 0) X (by decide +kernel), ?_⟩
  refine List.forall_mem_cons.mpr ⟨am_get_ok (C := R_Mo) (T := F_Mo) (N := 13) (idx := 23) X rfl (by decide) (fun w h => List.mem_cons_of_mem _ (u_Mo w h)) (List.mem_cons_of_mem _ w_Mo_23) (by decide +kernel), ?_⟩
  refine List.forall_mem_cons.mpr ⟨am_aload_n_ok (k := 0) X (by decide +kernel), ?_⟩
  refine List.forall_mem_cons.mpr ⟨am_iload_n_ok (k := 1) X (by decide +kernel), ?_⟩
  refine List.forall_mem_cons.mpr ⟨am_callV_ok (C := R_Mo) (T := F_Mo) (N := 13) (idx := 87) X rfl (am_GV m_Mo_87 v_Mo_next.1 v_Mo_next.2.1 v_Mo_next.2.2.1 v_Mo_next.2.2.2) ⟨rfl, v_Mo_nextd⟩ ⟨by decide, by decide⟩ (Nat.zero_le _) (by decide +kernel), ?_⟩
  refine List.forall_mem_cons.mpr ⟨am_iald_ok X am_Y0 (by decide +kernel), ?_⟩
  refine List.forall_mem_cons.mpr ⟨am_istore_n_ok (k := 3) X (by decide) (by decide +kernel), ?_⟩
  refine List.forall_mem_cons.mpr ⟨am_lconst_ok (n := 0) X (by decide +kernel), ?_⟩
  refine List.forall_mem_cons.mpr ⟨am_lstore_ok X (by decide) (by decide +kernel), ?_⟩
  refine List.forall_mem_cons.mpr ⟨am_lconst_ok (n := 0) X (by decide +kernel), ?_⟩
  refine List.forall_mem_cons.mpr ⟨am_lstore_ok X (by decide) (by decide +kernel), ?_⟩
  refine List.forall_mem_cons.mpr ⟨am_iconst_ok X (by decide +kernel), ?_⟩
  refine List.forall_mem_cons.mpr ⟨am_istore_ok X (by decide) (by decide +kernel), ?_⟩
  refine List.forall_mem_cons.mpr ⟨am_iload_ok X (by decide +kernel), ?_⟩
  refine List.forall_mem_cons.mpr ⟨am_aload_n_ok (k := 0) X (by decide +kernel), ?_⟩
  refine List.forall_mem_cons.mpr ⟨am_get_ok (C := R_Mo) (T := F_Mo) (N := 13) (idx := 63) X rfl (by decide) (fun w h => List.mem_cons_of_mem _ (u_Mo w h)) (List.mem_cons_of_mem _ w_Mo_63) (by decide +kernel), ?_⟩
  refine List.forall_mem_cons.mpr ⟨am_icmp_ge_ok (off := 115) X (by decide +kernel) (by decide), ?_⟩
  refine List.forall_mem_cons.mpr ⟨am_aload_n_ok (k := 0) X (by decide +kernel), ?_⟩
  refine List.forall_mem_cons.mpr ⟨am_get_ok (C := R_Mo) (T := F_Mo) (N := 13) (idx := 23) X rfl (by decide) (fun w h => List.mem_cons_of_mem _ (u_Mo w h)) (List.mem_cons_of_mem _ w_Mo_23) (by decide +kernel), ?_⟩
  refine List.forall_mem_cons.mpr ⟨am_iload_ok X (by decide +kernel), ?_⟩
  refine List.forall_mem_cons.mpr ⟨am_iald_ok X am_Y0 (by decide +kernel), ?_⟩
  refine List.forall_mem_cons.mpr ⟨am_istore_ok X (by decide) (by decide +kernel), ?_⟩
  refine List.forall_mem_cons.mpr ⟨am_aload_n_ok (k := 0) X (by decide +kernel), ?_⟩
  refine List.forall_mem_cons.mpr ⟨am_get_ok (C := R_Mo) (T := F_Mo) (N := 13) (idx := 7) X rfl (by decide) (fun w h => List.mem_cons_of_mem _ (u_Mo w h)) (List.mem_cons_of_mem _ w_Mo_7) (by decide +kernel), ?_⟩
  refine List.forall_mem_cons.mpr ⟨am_iload_n_ok (k := 3) X (by decide +kernel), ?_⟩
  refine List.forall_mem_cons.mpr ⟨am_iald_ok X am_Y0 (by decide +kernel), ?_⟩
  refine List.forall_mem_cons.mpr ⟨am_aload_n_ok (k := 0) X (by decide +kernel), ?_⟩
  refine List.forall_mem_cons.mpr ⟨am_get_ok (C := R_Mo) (T := F_Mo) (N := 13) (idx := 7) X rfl (by decide) (fun w h => List.mem_cons_of_mem _ (u_Mo w h)) (List.mem_cons_of_mem _ w_Mo_7) (by decide +kernel), ?_⟩
  refine List.forall_mem_cons.mpr ⟨am_iload_n_ok (k := 2) X (by decide +kernel), ?_⟩
  refine List.forall_mem_cons.mpr ⟨am_iald_ok X am_Y0 (by decide +kernel), ?_⟩
  refine List.forall_mem_cons.mpr ⟨am_isub_ok X (by decide +kernel), ?_⟩
  refine List.forall_mem_cons.mpr ⟨am_i2l_ok X (by decide +kernel), ?_⟩
  refine List.forall_mem_cons.mpr ⟨am_aload_n_ok (k := 0) X (by decide +kernel), ?_⟩
  refine List.forall_mem_cons.mpr ⟨am_get_ok (C := R_Mo) (T := F_Mo) (N := 13) (idx := 7) X rfl (by decide) (fun w h => List.mem_cons_of_mem _ (u_Mo w h)) (List.mem_cons_of_mem _ w_Mo_7) (by decide +kernel), ?_⟩
  refine List.forall_mem_cons.mpr ⟨am_iload_ok X (by decide +kernel), ?_⟩
  refine List.forall_mem_cons.mpr ⟨am_iald_ok X am_Y0 (by decide +kernel), ?_⟩
  refine List.forall_mem_cons.mpr ⟨am_aload_n_ok (k := 0) X (by decide +kernel), ?_⟩
  refine List.forall_mem_cons.mpr ⟨am_get_ok (C := R_Mo) (T := F_Mo) (N := 13) (idx := 7) X rfl (by decide) (fun w h => List.mem_cons_of_mem _ (u_Mo w h)) (List.mem_cons_of_mem _ w_Mo_7) (by decide +kernel), ?_⟩
  refine List.forall_mem_cons.mpr ⟨am_iload_n_ok (k := 2) X (by decide +kernel), ?_⟩
  refine List.forall_mem_cons.mpr ⟨am_iald_ok X am_Y0 (by decide +kernel), ?_⟩
  refine List.forall_mem_cons.mpr ⟨am_isub_ok X (by decide +kernel), ?_⟩
  refine List.forall_mem_cons.mpr ⟨am_i2l_ok X (by decide +kernel), ?_⟩
  refine List.forall_mem_cons.mpr ⟨am_lmul_ok X (by decide +kernel), ?_⟩
  refine List.forall_mem_cons.mpr ⟨am_aload_n_ok (k := 0) X (by decide +kernel), ?_⟩
  refine List.forall_mem_cons.mpr ⟨am_get_ok (C := R_Mo) (T := F_Mo) (N := 13) (idx := 13) X rfl (by decide) (fun w h => List.mem_cons_of_mem _ (u_Mo w h)) (List.mem_cons_of_mem _ w_Mo_13) (by decide +kernel), ?_⟩
  refine List.forall_mem_cons.mpr ⟨am_iload_n_ok (k := 3) X (by decide +kernel), ?_⟩
  refine List.forall_mem_cons.mpr ⟨am_iald_ok X am_Y0 (by decide +kernel), ?_⟩
  refine List.forall_mem_cons.mpr ⟨am_aload_n_ok (k := 0) X (by decide +kernel), ?_⟩
  refine List.forall_mem_cons.mpr ⟨am_get_ok (C := R_Mo) (T := F_Mo) (N := 13) (idx := 13) X rfl (by decide) (fun w h => List.mem_cons_of_mem _ (u_Mo w h)) (List.mem_cons_of_mem _ w_Mo_13) (by decide +kernel), ?_⟩
  refine List.forall_mem_cons.mpr ⟨am_iload_n_ok (k := 2) X (by decide +kernel), ?_⟩
  refine List.forall_mem_cons.mpr ⟨am_iald_ok X am_Y0 (by decide +kernel), ?_⟩
  refine List.forall_mem_cons.mpr ⟨am_isub_ok X (by decide +kernel), ?_⟩
  refine List.forall_mem_cons.mpr ⟨am_i2l_ok X (by decide +kernel), ?_⟩
  refine List.forall_mem_cons.mpr ⟨am_aload_n_ok (k := 0) X (by decide +kernel), ?_⟩
  refine List.forall_mem_cons.mpr ⟨am_get_ok (C := R_Mo) (T := F_Mo) (N := 13) (idx := 13) X rfl (by decide) (fun w h => List.mem_cons_of_mem _ (u_Mo w h)) (List.mem_cons_of_mem _ w_Mo_13) (by decide +kernel), ?_⟩
  refine List.forall_mem_cons.mpr ⟨am_iload_ok X (by decide +kernel), ?_⟩
  refine List.forall_mem_cons.mpr ⟨am_iald_ok X am_Y0 (by decide +kernel), ?_⟩
  refine List.forall_mem_cons.mpr ⟨am_aload_n_ok (k := 0) X (by decide +kernel), ?_⟩
  refine List.forall_mem_cons.mpr ⟨am_get_ok (C := R_Mo) (T := F_Mo) (N := 13) (idx := 13) X rfl (by decide) (fun w h => List.mem_cons_of_mem _ (u_Mo w h)) (List.mem_cons_of_mem _ w_Mo_13) (by decide +kernel), ?_⟩
  refine List.forall_mem_cons.mpr ⟨am_iload_n_ok (k := 2) X (by decide +kernel), ?_⟩
  refine List.forall_mem_cons.mpr ⟨am_iald_ok X am_Y0 (by decide +kernel), ?_⟩
  refine List.forall_mem_cons.mpr ⟨am_isub_ok X (by decide +kernel), ?_⟩
  refine List.forall_mem_cons.mpr ⟨am_i2l_ok X (by decide +kernel), ?_⟩
  refine List.forall_mem_cons.mpr ⟨am_lmul_ok X (by decide +kernel), ?_⟩
  refine List.forall_mem_cons.mpr ⟨am_ladd_ok X (by decide +kernel), ?_⟩
  refine List.forall_mem_cons.mpr ⟨am_lstore_ok X (by decide) (by decide +kernel), ?_⟩
  refine List.forall_mem_cons.mpr ⟨am_lload_ok X (by decide +kernel), ?_⟩
  refine List.forall_mem_cons.mpr ⟨am_lload_ok X (by decide +kernel), ?_⟩
  refine List.forall_mem_cons.mpr ⟨am_lcmp_ge_ok (off := 8) X (by decide +kernel) (by decide +kernel) (by decide), ?_⟩
  refine List.forall_mem_cons.mpr ⟨am_lload_ok X (by decide +kernel), ?_⟩
  refine List.forall_mem_cons.mpr ⟨am_goto_ok (off := 5) X (by decide +kernel) (by decide), ?_⟩
  refine List.forall_mem_cons.mpr ⟨am_lload_ok X (by decide +kernel), ?_⟩
  refine List.forall_mem_cons.mpr ⟨am_lstore_ok X (by decide) (by decide +kernel), ?_⟩
  refine List.forall_mem_cons.mpr ⟨am_lload_ok X (by decide +kernel), ?_⟩
  refine List.forall_mem_cons.mpr ⟨am_lload_ok X (by decide +kernel), ?_⟩
  refine List.forall_mem_cons.mpr ⟨am_lcmp_le_ok (off := 8) X (by decide +kernel) (by decide +kernel) (by decide), ?_⟩
  refine List.forall_mem_cons.mpr ⟨am_lload_ok X (by decide +kernel), ?_⟩
  refine List.forall_mem_cons.mpr ⟨am_goto_ok (off := 5) X (by decide +kernel) (by decide), ?_⟩
  refine List.forall_mem_cons.mpr ⟨am_lload_ok X (by decide +kernel), ?_⟩
  refine List.forall_mem_cons.mpr ⟨am_lstore_ok X (by decide) (by decide +kernel), ?_⟩
  refine List.forall_mem_cons.mpr ⟨am_iinc_ok X (by decide) (by decide +kernel), ?_⟩
  refine List.forall_mem_cons.mpr ⟨am_goto_ok (off := -118) X (by decide +kernel) (by decide), ?_⟩
  refine List.forall_mem_cons.mpr ⟨am_lload_ok X (by decide +kernel), ?_⟩
  refine List.forall_mem_cons.mpr ⟨am_lload_ok X (by decide +kernel), ?_⟩
  refine List.forall_mem_cons.mpr ⟨am_lsub_ok X (by decide +kernel), ?_⟩
  refine List.forall_mem_cons.mpr ⟨am_lret_ok X hr (by decide +kernel), ?_⟩
  exact fun _ h => absurd h List.not_mem_nil
abbrev b_Mo_times : AT := [(0, am_ic 0 1), (1, am_ist 4 2), (3, am_ild 4 2), (5, am_ic (6) 2), (7, am_icmp 3 42), (10, am_ald 0 1), (11, am_get am_Y 9 11), (14, am_ild 4 2), (16, am_ald 0 1), (17, am_get am_Y 9 10), (20, am_ild 1 1), (21, am_ild 4 2), (23, am_iadd), (24, am_lald am_Y), (25, am_last am_Y), (26, am_ald 0 1), (27, am_get am_Y 9 10), (30, am_ild 1 1), (31, am_ild 4 2), (33, am_iadd), (34, am_lc 0 1), (35, am_last am_Y), (36, am_inc 4 (1)), (39, am_goto 3), (42, am_lc 0 1), (43, am_lst 4 2), (45, am_ic 0 1), (46, am_ist 6 2), (48, am_ild 6 2), (50, am_ic (6) 2), (52, am_icmp 3 130), (55, am_lld 4 2), (57, am_ald 0 1), (58, am_get am_Y 9 11), (61, am_ild 6 2), (63, am_lald am_Y), (64, am_lld 2 1), (65, am_lc (1073741823) 3), (68, am_land), (69, am_lmul), (70, am_ladd), (71, am_lst 7 2), (73, am_ild 6 2), (75, am_if 5 98), (78, am_lld 7 2), (80, am_ald 0 1), (81, am_get am_Y 9 11), (84, am_ild 6 2), (86, am_ic 1 1), (87, am_isub), (88, am_lald am_Y), (89, am_lld 2 1), (90, am_ic (30) 2), (92, am_lshr), (93, am_lmul), (94, am_ladd), (95, am_goto 100), (98, am_lld 7 2), (100, am_lst 7 2), (102, am_ald 0 1), (103, am_get am_Y 9 10), (106, am_ild 1 1), (107, am_ild 6 2), (109, am_iadd), (110, am_lld 7 2), (112, am_lc (1073741823) 3), (115, am_land), (116, am_last am_Y), (117, am_lld 7 2), (119, am_ic (30) 2), (121, am_lshr), (122, am_lst 4 2), (124, am_inc 6 (1)), (127, am_goto 48), (130, am_vret)]
set_option maxRecDepth 100000 in
set_option maxHeartbeats 4000000 in
theorem T_Mo_times : am_T am_Y am_cl am_Gw am_mi 120 b_Mo_times := by
  intro E A p l e s m args below meth c Rt X hr
  refine List.forall_mem_cons.mpr ⟨am_iconst_ok X (by decide +kernel), ?_⟩
  refine List.forall_mem_cons.mpr ⟨am_istore_ok X (by decide) (by decide +kernel), ?_⟩
  refine List.forall_mem_cons.mpr ⟨am_iload_ok X (by decide +kernel), ?_⟩
  refine List.forall_mem_cons.mpr ⟨am_bipush_ok X (by decide +kernel) (by decide), ?_⟩
  refine List.forall_mem_cons.mpr ⟨am_icmp_ge_ok (off := 35) X (by decide +kernel) (by decide), ?_⟩
  refine List.forall_mem_cons.mpr ⟨am_aload_n_ok (k := 0) X (by decide +kernel), ?_⟩
  refine List.forall_mem_cons.mpr ⟨am_get_ok (C := R_Mo) (T := F_Mo) (N := 13) (idx := 33) X rfl (by decide) (fun w h => List.mem_cons_of_mem _ (u_Mo w h)) (List.mem_cons_of_mem _ w_Mo_33) (by decide +kernel), ?_⟩
  refine List.forall_mem_cons.mpr ⟨am_iload_ok X (by decide +kernel), ?_⟩
  refine List.forall_mem_cons.mpr ⟨am_aload_n_ok (k := 0) X (by decide +kernel), ?_⟩
  refine List.forall_mem_cons.mpr ⟨am_get_ok (C := R_Mo) (T := F_Mo) (N := 13) (idx := 29) X rfl (by decide) (fun w h => List.mem_cons_of_mem _ (u_Mo w h)) (List.mem_cons_of_mem _ w_Mo_29) (by decide +kernel), ?_⟩
  refine List.forall_mem_cons.mpr ⟨am_iload_n_ok (k := 1) X (by decide +kernel), ?_⟩
  refine List.forall_mem_cons.mpr ⟨am_iload_ok X (by decide +kernel), ?_⟩
  refine List.forall_mem_cons.mpr ⟨am_iadd_ok X (by decide +kernel), ?_⟩
  refine List.forall_mem_cons.mpr ⟨am_lald_ok X am_Y0 (by decide +kernel), ?_⟩
  refine List.forall_mem_cons.mpr ⟨am_last_ok X am_Y0 (by decide +kernel), ?_⟩
  refine List.forall_mem_cons.mpr ⟨am_aload_n_ok (k := 0) X (by decide +kernel), ?_⟩
  refine List.forall_mem_cons.mpr ⟨am_get_ok (C := R_Mo) (T := F_Mo) (N := 13) (idx := 29) X rfl (by decide) (fun w h => List.mem_cons_of_mem _ (u_Mo w h)) (List.mem_cons_of_mem _ w_Mo_29) (by decide +kernel), ?_⟩
  refine List.forall_mem_cons.mpr ⟨am_iload_n_ok (k := 1) X (by decide +kernel), ?_⟩
  refine List.forall_mem_cons.mpr ⟨am_iload_ok X (by decide +kernel), ?_⟩
  refine List.forall_mem_cons.mpr ⟨am_iadd_ok X (by decide +kernel), ?_⟩
  refine List.forall_mem_cons.mpr ⟨am_lconst_ok (n := 0) X (by decide +kernel), ?_⟩
  refine List.forall_mem_cons.mpr ⟨am_last_ok X am_Y0 (by decide +kernel), ?_⟩
  refine List.forall_mem_cons.mpr ⟨am_iinc_ok X (by decide) (by decide +kernel), ?_⟩
  refine List.forall_mem_cons.mpr ⟨am_goto_ok (off := -36) X (by decide +kernel) (by decide), ?_⟩
  refine List.forall_mem_cons.mpr ⟨am_lconst_ok (n := 0) X (by decide +kernel), ?_⟩
  refine List.forall_mem_cons.mpr ⟨am_lstore_ok X (by decide) (by decide +kernel), ?_⟩
  refine List.forall_mem_cons.mpr ⟨am_iconst_ok X (by decide +kernel), ?_⟩
  refine List.forall_mem_cons.mpr ⟨am_istore_ok X (by decide) (by decide +kernel), ?_⟩
  refine List.forall_mem_cons.mpr ⟨am_iload_ok X (by decide +kernel), ?_⟩
  refine List.forall_mem_cons.mpr ⟨am_bipush_ok X (by decide +kernel) (by decide), ?_⟩
  refine List.forall_mem_cons.mpr ⟨am_icmp_ge_ok (off := 78) X (by decide +kernel) (by decide), ?_⟩
  refine List.forall_mem_cons.mpr ⟨am_lload_ok X (by decide +kernel), ?_⟩
  refine List.forall_mem_cons.mpr ⟨am_aload_n_ok (k := 0) X (by decide +kernel), ?_⟩
  refine List.forall_mem_cons.mpr ⟨am_get_ok (C := R_Mo) (T := F_Mo) (N := 13) (idx := 33) X rfl (by decide) (fun w h => List.mem_cons_of_mem _ (u_Mo w h)) (List.mem_cons_of_mem _ w_Mo_33) (by decide +kernel), ?_⟩
  refine List.forall_mem_cons.mpr ⟨am_iload_ok X (by decide +kernel), ?_⟩
  refine List.forall_mem_cons.mpr ⟨am_lald_ok X am_Y0 (by decide +kernel), ?_⟩
  refine List.forall_mem_cons.mpr ⟨am_lload_n_ok (k := 2) X (by decide +kernel), ?_⟩
  refine List.forall_mem_cons.mpr ⟨am_ldc2_ok (i := 113) X (by decide +kernel) (List.mem_cons_of_mem _ (am_Gin 983 (by decide +kernel) (by decide +kernel))), ?_⟩
  refine List.forall_mem_cons.mpr ⟨am_land_ok X (by decide +kernel), ?_⟩
  refine List.forall_mem_cons.mpr ⟨am_lmul_ok X (by decide +kernel), ?_⟩
  refine List.forall_mem_cons.mpr ⟨am_ladd_ok X (by decide +kernel), ?_⟩
  refine List.forall_mem_cons.mpr ⟨am_lstore_ok X (by decide) (by decide +kernel), ?_⟩
  refine List.forall_mem_cons.mpr ⟨am_iload_ok X (by decide +kernel), ?_⟩
  refine List.forall_mem_cons.mpr ⟨am_if_le_ok (off := 23) X (by decide +kernel) (by decide), ?_⟩
  refine List.forall_mem_cons.mpr ⟨am_lload_ok X (by decide +kernel), ?_⟩
  refine List.forall_mem_cons.mpr ⟨am_aload_n_ok (k := 0) X (by decide +kernel), ?_⟩
  refine List.forall_mem_cons.mpr ⟨am_get_ok (C := R_Mo) (T := F_Mo) (N := 13) (idx := 33) X rfl (by decide) (fun w h => List.mem_cons_of_mem _ (u_Mo w h)) (List.mem_cons_of_mem _ w_Mo_33) (by decide +kernel), ?_⟩
  refine List.forall_mem_cons.mpr ⟨am_iload_ok X (by decide +kernel), ?_⟩
  refine List.forall_mem_cons.mpr ⟨am_iconst_ok X (by decide +kernel), ?_⟩
  refine List.forall_mem_cons.mpr ⟨am_isub_ok X (by decide +kernel), ?_⟩
  refine List.forall_mem_cons.mpr ⟨am_lald_ok X am_Y0 (by decide +kernel), ?_⟩
  refine List.forall_mem_cons.mpr ⟨am_lload_n_ok (k := 2) X (by decide +kernel), ?_⟩
  refine List.forall_mem_cons.mpr ⟨am_bipush_ok X (by decide +kernel) (by decide), ?_⟩
  refine List.forall_mem_cons.mpr ⟨am_lshr_ok X (by decide +kernel), ?_⟩
  refine List.forall_mem_cons.mpr ⟨am_lmul_ok X (by decide +kernel), ?_⟩
  refine List.forall_mem_cons.mpr ⟨am_ladd_ok X (by decide +kernel), ?_⟩
  refine List.forall_mem_cons.mpr ⟨am_goto_ok (off := 5) X (by decide +kernel) (by decide), ?_⟩
  refine List.forall_mem_cons.mpr ⟨am_lload_ok X (by decide +kernel), ?_⟩
  refine List.forall_mem_cons.mpr ⟨am_lstore_ok X (by decide) (by decide +kernel), ?_⟩
  refine List.forall_mem_cons.mpr ⟨am_aload_n_ok (k := 0) X (by decide +kernel), ?_⟩
  refine List.forall_mem_cons.mpr ⟨am_get_ok (C := R_Mo) (T := F_Mo) (N := 13) (idx := 29) X rfl (by decide) (fun w h => List.mem_cons_of_mem _ (u_Mo w h)) (List.mem_cons_of_mem _ w_Mo_29) (by decide +kernel), ?_⟩
  refine List.forall_mem_cons.mpr ⟨am_iload_n_ok (k := 1) X (by decide +kernel), ?_⟩
  refine List.forall_mem_cons.mpr ⟨am_iload_ok X (by decide +kernel), ?_⟩
  refine List.forall_mem_cons.mpr ⟨am_iadd_ok X (by decide +kernel), ?_⟩
  refine List.forall_mem_cons.mpr ⟨am_lload_ok X (by decide +kernel), ?_⟩
  refine List.forall_mem_cons.mpr ⟨am_ldc2_ok (i := 113) X (by decide +kernel) (List.mem_cons_of_mem _ (am_Gin 983 (by decide +kernel) (by decide +kernel))), ?_⟩
  refine List.forall_mem_cons.mpr ⟨am_land_ok X (by decide +kernel), ?_⟩
  refine List.forall_mem_cons.mpr ⟨am_last_ok X am_Y0 (by decide +kernel), ?_⟩
  refine List.forall_mem_cons.mpr ⟨am_lload_ok X (by decide +kernel), ?_⟩
  refine List.forall_mem_cons.mpr ⟨am_bipush_ok X (by decide +kernel) (by decide), ?_⟩
  refine List.forall_mem_cons.mpr ⟨am_lshr_ok X (by decide +kernel), ?_⟩
  refine List.forall_mem_cons.mpr ⟨am_lstore_ok X (by decide) (by decide +kernel), ?_⟩
  refine List.forall_mem_cons.mpr ⟨am_iinc_ok X (by decide) (by decide +kernel), ?_⟩
  refine List.forall_mem_cons.mpr ⟨am_goto_ok (off := -79) X (by decide +kernel) (by decide), ?_⟩
  refine List.forall_mem_cons.mpr ⟨am_vret_ok X hr (by decide +kernel), ?_⟩
  exact fun _ h => absurd h List.not_mem_nil
abbrev b_Mo_product : AT := [(0, am_ic 0 1), (1, am_ist 8 2), (3, am_ild 8 2), (5, am_ic (6) 2), (7, am_icmp 3 35), (10, am_ald 0 1), (11, am_get am_Y 9 10), (14, am_ild 1 1), (15, am_ild 8 2), (17, am_iadd), (18, am_ild 8 2), (20, am_if 1 27), (23, am_lc 1 1), (24, am_goto 28), (27, am_lc 0 1), (28, am_last am_Y), (29, am_inc 8 (1)), (32, am_goto 3), (35, am_ald 0 1), (36, am_ild 1 1), (37, am_lld 2 1), (38, am_callV am_Y 9 120 2), (41, am_ald 0 1), (42, am_ild 1 1), (43, am_lld 4 2), (45, am_callV am_Y 9 120 2), (48, am_ald 0 1), (49, am_ild 1 1), (50, am_lld 6 2), (52, am_callV am_Y 9 120 2), (55, am_vret)]
set_option maxRecDepth 100000 in
set_option maxHeartbeats 4000000 in
theorem T_Mo_product : am_T am_Y am_cl am_Gw am_mi 121 b_Mo_product := by
  intro E A p l e s m args below meth c Rt X hr
  refine List.forall_mem_cons.mpr ⟨am_iconst_ok X (by decide +kernel), ?_⟩
  refine List.forall_mem_cons.mpr ⟨am_istore_ok X (by decide) (by decide +kernel), ?_⟩
  refine List.forall_mem_cons.mpr ⟨am_iload_ok X (by decide +kernel), ?_⟩
  refine List.forall_mem_cons.mpr ⟨am_bipush_ok X (by decide +kernel) (by decide), ?_⟩
  refine List.forall_mem_cons.mpr ⟨am_icmp_ge_ok (off := 28) X (by decide +kernel) (by decide), ?_⟩
  refine List.forall_mem_cons.mpr ⟨am_aload_n_ok (k := 0) X (by decide +kernel), ?_⟩
  refine List.forall_mem_cons.mpr ⟨am_get_ok (C := R_Mo) (T := F_Mo) (N := 13) (idx := 29) X rfl (by decide) (fun w h => List.mem_cons_of_mem _ (u_Mo w h)) (List.mem_cons_of_mem _ w_Mo_29) (by decide +kernel), ?_⟩
  refine List.forall_mem_cons.mpr ⟨am_iload_n_ok (k := 1) X (by decide +kernel), ?_⟩
  refine List.forall_mem_cons.mpr ⟨am_iload_ok X (by decide +kernel), ?_⟩
  refine List.forall_mem_cons.mpr ⟨am_iadd_ok X (by decide +kernel), ?_⟩
  refine List.forall_mem_cons.mpr ⟨am_iload_ok X (by decide +kernel), ?_⟩
  refine List.forall_mem_cons.mpr ⟨am_if_ne_ok (off := 7) X (by decide +kernel) (by decide), ?_⟩
  refine List.forall_mem_cons.mpr ⟨am_lconst_ok (n := 1) X (by decide +kernel), ?_⟩
  refine List.forall_mem_cons.mpr ⟨am_goto_ok (off := 4) X (by decide +kernel) (by decide), ?_⟩
  refine List.forall_mem_cons.mpr ⟨am_lconst_ok (n := 0) X (by decide +kernel), ?_⟩
  refine List.forall_mem_cons.mpr ⟨am_last_ok X am_Y0 (by decide +kernel), ?_⟩
  refine List.forall_mem_cons.mpr ⟨am_iinc_ok X (by decide) (by decide +kernel), ?_⟩
  refine List.forall_mem_cons.mpr ⟨am_goto_ok (off := -29) X (by decide +kernel) (by decide), ?_⟩
  refine List.forall_mem_cons.mpr ⟨am_aload_n_ok (k := 0) X (by decide +kernel), ?_⟩
  refine List.forall_mem_cons.mpr ⟨am_iload_n_ok (k := 1) X (by decide +kernel), ?_⟩
  refine List.forall_mem_cons.mpr ⟨am_lload_n_ok (k := 2) X (by decide +kernel), ?_⟩
  refine List.forall_mem_cons.mpr ⟨am_callV_ok (C := R_Mo) (T := F_Mo) (N := 13) (idx := 115) X rfl (am_GV m_Mo_115 v_Mo_times.1 v_Mo_times.2.1 v_Mo_times.2.2.1 v_Mo_times.2.2.2) ⟨rfl, v_Mo_timesd⟩ ⟨by decide, by decide⟩ (Nat.zero_le _) (by decide +kernel), ?_⟩
  refine List.forall_mem_cons.mpr ⟨am_aload_n_ok (k := 0) X (by decide +kernel), ?_⟩
  refine List.forall_mem_cons.mpr ⟨am_iload_n_ok (k := 1) X (by decide +kernel), ?_⟩
  refine List.forall_mem_cons.mpr ⟨am_lload_ok X (by decide +kernel), ?_⟩
  refine List.forall_mem_cons.mpr ⟨am_callV_ok (C := R_Mo) (T := F_Mo) (N := 13) (idx := 115) X rfl (am_GV m_Mo_115 v_Mo_times.1 v_Mo_times.2.1 v_Mo_times.2.2.1 v_Mo_times.2.2.2) ⟨rfl, v_Mo_timesd⟩ ⟨by decide, by decide⟩ (Nat.zero_le _) (by decide +kernel), ?_⟩
  refine List.forall_mem_cons.mpr ⟨am_aload_n_ok (k := 0) X (by decide +kernel), ?_⟩
  refine List.forall_mem_cons.mpr ⟨am_iload_n_ok (k := 1) X (by decide +kernel), ?_⟩
  refine List.forall_mem_cons.mpr ⟨am_lload_ok X (by decide +kernel), ?_⟩
  refine List.forall_mem_cons.mpr ⟨am_callV_ok (C := R_Mo) (T := F_Mo) (N := 13) (idx := 115) X rfl (am_GV m_Mo_115 v_Mo_times.1 v_Mo_times.2.1 v_Mo_times.2.2.1 v_Mo_times.2.2.2) ⟨rfl, v_Mo_timesd⟩ ⟨by decide, by decide⟩ (Nat.zero_le _) (by decide +kernel), ?_⟩
  refine List.forall_mem_cons.mpr ⟨am_vret_ok X hr (by decide +kernel), ?_⟩
  exact fun _ h => absurd h List.not_mem_nil
abbrev b_Mo_isLess : AT := [(0, am_ic 5 1), (1, am_ist 1 1), (2, am_ild 1 1), (3, am_if 5 31), (6, am_ald 0 1), (7, am_get am_Y 9 10), (10, am_ild 1 1), (11, am_lald am_Y), (12, am_ald 0 1), (13, am_get am_Y 9 10), (16, am_ic (6) 2), (18, am_ild 1 1), (19, am_iadd), (20, am_lald am_Y), (21, am_lcmp 1 31), (25, am_inc 1 (-1)), (28, am_goto 2), (31, am_ald 0 1), (32, am_get am_Y 9 10), (35, am_ild 1 1), (36, am_lald am_Y), (37, am_ald 0 1), (38, am_get am_Y 9 10), (41, am_ic (6) 2), (43, am_ild 1 1), (44, am_iadd), (45, am_lald am_Y), (46, am_lcmp 3 54), (50, am_ic 1 1), (51, am_goto 55), (54, am_ic 0 1), (55, am_zret)]
set_option maxRecDepth 100000 in
set_option maxHeartbeats 4000000 in
theorem T_Mo_isLess : am_T am_Y am_cl am_Gw am_mi 122 b_Mo_isLess := by
  intro E A p l e s m args below meth c Rt X hr
  refine List.forall_mem_cons.mpr ⟨am_iconst_ok X (by decide +kernel), ?_⟩
  refine List.forall_mem_cons.mpr ⟨am_istore_n_ok (k := 1) X (by decide) (by decide +kernel), ?_⟩
  refine List.forall_mem_cons.mpr ⟨am_iload_n_ok (k := 1) X (by decide +kernel), ?_⟩
  refine List.forall_mem_cons.mpr ⟨am_if_le_ok (off := 28) X (by decide +kernel) (by decide), ?_⟩
  refine List.forall_mem_cons.mpr ⟨am_aload_n_ok (k := 0) X (by decide +kernel), ?_⟩
  refine List.forall_mem_cons.mpr ⟨am_get_ok (C := R_Mo) (T := F_Mo) (N := 13) (idx := 29) X rfl (by decide) (fun w h => List.mem_cons_of_mem _ (u_Mo w h)) (List.mem_cons_of_mem _ w_Mo_29) (by decide +kernel), ?_⟩
  refine List.forall_mem_cons.mpr ⟨am_iload_n_ok (k := 1) X (by decide +kernel), ?_⟩
  refine List.forall_mem_cons.mpr ⟨am_lald_ok X am_Y0 (by decide +kernel), ?_⟩
  refine List.forall_mem_cons.mpr ⟨am_aload_n_ok (k := 0) X (by decide +kernel), ?_⟩
  refine List.forall_mem_cons.mpr ⟨am_get_ok (C := R_Mo) (T := F_Mo) (N := 13) (idx := 29) X rfl (by decide) (fun w h => List.mem_cons_of_mem _ (u_Mo w h)) (List.mem_cons_of_mem _ w_Mo_29) (by decide +kernel), ?_⟩
  refine List.forall_mem_cons.mpr ⟨am_bipush_ok X (by decide +kernel) (by decide), ?_⟩
  refine List.forall_mem_cons.mpr ⟨am_iload_n_ok (k := 1) X (by decide +kernel), ?_⟩
  refine List.forall_mem_cons.mpr ⟨am_iadd_ok X (by decide +kernel), ?_⟩
  refine List.forall_mem_cons.mpr ⟨am_lald_ok X am_Y0 (by decide +kernel), ?_⟩
  refine List.forall_mem_cons.mpr ⟨am_lcmp_ne_ok (off := 9) X (by decide +kernel) (by decide +kernel) (by decide), ?_⟩
  refine List.forall_mem_cons.mpr ⟨am_iinc_ok X (by decide) (by decide +kernel), ?_⟩
  refine List.forall_mem_cons.mpr ⟨am_goto_ok (off := -26) X (by decide +kernel) (by decide), ?_⟩
  refine List.forall_mem_cons.mpr ⟨am_aload_n_ok (k := 0) X (by decide +kernel), ?_⟩
  refine List.forall_mem_cons.mpr ⟨am_get_ok (C := R_Mo) (T := F_Mo) (N := 13) (idx := 29) X rfl (by decide) (fun w h => List.mem_cons_of_mem _ (u_Mo w h)) (List.mem_cons_of_mem _ w_Mo_29) (by decide +kernel), ?_⟩
  refine List.forall_mem_cons.mpr ⟨am_iload_n_ok (k := 1) X (by decide +kernel), ?_⟩
  refine List.forall_mem_cons.mpr ⟨am_lald_ok X am_Y0 (by decide +kernel), ?_⟩
  refine List.forall_mem_cons.mpr ⟨am_aload_n_ok (k := 0) X (by decide +kernel), ?_⟩
  refine List.forall_mem_cons.mpr ⟨am_get_ok (C := R_Mo) (T := F_Mo) (N := 13) (idx := 29) X rfl (by decide) (fun w h => List.mem_cons_of_mem _ (u_Mo w h)) (List.mem_cons_of_mem _ w_Mo_29) (by decide +kernel), ?_⟩
  refine List.forall_mem_cons.mpr ⟨am_bipush_ok X (by decide +kernel) (by decide), ?_⟩
  refine List.forall_mem_cons.mpr ⟨am_iload_n_ok (k := 1) X (by decide +kernel), ?_⟩
  refine List.forall_mem_cons.mpr ⟨am_iadd_ok X (by decide +kernel), ?_⟩
  refine List.forall_mem_cons.mpr ⟨am_lald_ok X am_Y0 (by decide +kernel), ?_⟩
  refine List.forall_mem_cons.mpr ⟨am_lcmp_ge_ok (off := 7) X (by decide +kernel) (by decide +kernel) (by decide), ?_⟩
  refine List.forall_mem_cons.mpr ⟨am_iconst_ok X (by decide +kernel), ?_⟩
  refine List.forall_mem_cons.mpr ⟨am_goto_ok (off := 4) X (by decide +kernel) (by decide), ?_⟩
  refine List.forall_mem_cons.mpr ⟨am_iconst_ok X (by decide +kernel), ?_⟩
  refine List.forall_mem_cons.mpr ⟨am_zret_ok X hr (by decide +kernel), ?_⟩
  exact fun _ h => absurd h List.not_mem_nil
abbrev b_Mo_best : AT := [(0, am_ald 0 1), (1, am_ic 0 1), (2, am_put am_Y 9 0), (5, am_ald 0 1), (6, am_callV am_Y 9 106 0), (9, am_ald 0 1), (10, am_get am_Y 9 8), (13, am_ic 3 1), (14, am_icmp 2 26), (17, am_ild 1 1), (18, am_if 2 26), (21, am_ild 1 1), (22, am_ic 1 1), (23, am_icmp 5 28), (26, am_ic (-1) 1), (27, am_ret), (28, am_ic 0 1), (29, am_ist 2 1), (30, am_ic 1 1), (31, am_ist 3 1), (32, am_ild 3 1), (33, am_ald 0 1), (34, am_get am_Y 9 8), (37, am_icmp 3 124), (40, am_ald 0 1), (41, am_ic 0 1), (42, am_ald 0 1), (43, am_ild 3 1), (44, am_callV am_Y 9 117 1), (47, am_ild 1 1), (48, am_if 1 59), (51, am_ald 0 1), (52, am_ild 3 1), (53, am_callV am_Y 9 117 1), (56, am_goto 64), (59, am_ald 0 1), (60, am_ild 3 1), (61, am_callV am_Y 9 119 1), (64, am_ald 0 1), (65, am_ild 2 1), (66, am_callV am_Y 9 118 1), (69, am_callV am_Y 9 121 4), (72, am_ald 0 1), (73, am_ic (6) 2), (75, am_ald 0 1), (76, am_ild 2 1), (77, am_callV am_Y 9 117 1), (80, am_ild 1 1), (81, am_if 1 92), (84, am_ald 0 1), (85, am_ild 2 1), (86, am_callV am_Y 9 117 1), (89, am_goto 97), (92, am_ald 0 1), (93, am_ild 2 1), (94, am_callV am_Y 9 119 1), (97, am_ald 0 1), (98, am_ild 3 1), (99, am_callV am_Y 9 118 1), (102, am_callV am_Y 9 121 4), (105, am_ald 0 1), (106, am_callV am_Y 9 122 0), (109, am_if 0 116), (112, am_ild 3 1), (113, am_goto 117), (116, am_ild 2 1), (117, am_ist 2 1), (118, am_inc 3 (1)), (121, am_goto 32), (124, am_ild 2 1), (125, am_ret)]
set_option maxRecDepth 100000 in
set_option maxHeartbeats 4000000 in
theorem T_Mo_best : am_T am_Y am_cl am_Gw am_mi 123 b_Mo_best := by
  intro E A p l e s m args below meth c Rt X hr
  refine List.forall_mem_cons.mpr ⟨am_aload_n_ok (k := 0) X (by decide +kernel), ?_⟩
  refine List.forall_mem_cons.mpr ⟨am_iconst_ok X (by decide +kernel), ?_⟩
  refine List.forall_mem_cons.mpr ⟨am_put_ok (C := R_Mo) (T := F_Mo) (N := 13) (idx := 39) X rfl (by decide) (fun w h => List.mem_cons_of_mem _ (u_Mo w h)) t_Mo_ok n_Mo rfl (by decide +kernel) (List.mem_cons_of_mem _ w_Mo_39) (by decide +kernel), ?_⟩
  refine List.forall_mem_cons.mpr ⟨am_aload_n_ok (k := 0) X (by decide +kernel), ?_⟩
  refine List.forall_mem_cons.mpr ⟨am_callV_ok (C := R_Mo) (T := F_Mo) (N := 13) (idx := 100) X rfl (am_GV m_Mo_100 v_Mo_hull.1 v_Mo_hull.2.1 v_Mo_hull.2.2.1 v_Mo_hull.2.2.2) ⟨rfl, v_Mo_hulld⟩ ⟨by decide, by decide⟩ (Nat.zero_le _) (by decide +kernel), ?_⟩
  refine List.forall_mem_cons.mpr ⟨am_aload_n_ok (k := 0) X (by decide +kernel), ?_⟩
  refine List.forall_mem_cons.mpr ⟨am_get_ok (C := R_Mo) (T := F_Mo) (N := 13) (idx := 63) X rfl (by decide) (fun w h => List.mem_cons_of_mem _ (u_Mo w h)) (List.mem_cons_of_mem _ w_Mo_63) (by decide +kernel), ?_⟩
  refine List.forall_mem_cons.mpr ⟨am_iconst_ok X (by decide +kernel), ?_⟩
  refine List.forall_mem_cons.mpr ⟨am_icmp_lt_ok (off := 12) X (by decide +kernel) (by decide), ?_⟩
  refine List.forall_mem_cons.mpr ⟨am_iload_n_ok (k := 1) X (by decide +kernel), ?_⟩
  refine List.forall_mem_cons.mpr ⟨am_if_lt_ok (off := 8) X (by decide +kernel) (by decide), ?_⟩
  refine List.forall_mem_cons.mpr ⟨am_iload_n_ok (k := 1) X (by decide +kernel), ?_⟩
  refine List.forall_mem_cons.mpr ⟨am_iconst_ok X (by decide +kernel), ?_⟩
  refine List.forall_mem_cons.mpr ⟨am_icmp_le_ok (off := 5) X (by decide +kernel) (by decide), ?_⟩
  refine List.forall_mem_cons.mpr ⟨am_iconst_ok X (by decide +kernel), ?_⟩
  refine List.forall_mem_cons.mpr ⟨am_ret_ok X hr (by decide +kernel), ?_⟩
  refine List.forall_mem_cons.mpr ⟨am_iconst_ok X (by decide +kernel), ?_⟩
  refine List.forall_mem_cons.mpr ⟨am_istore_n_ok (k := 2) X (by decide) (by decide +kernel), ?_⟩
  refine List.forall_mem_cons.mpr ⟨am_iconst_ok X (by decide +kernel), ?_⟩
  refine List.forall_mem_cons.mpr ⟨am_istore_n_ok (k := 3) X (by decide) (by decide +kernel), ?_⟩
  refine List.forall_mem_cons.mpr ⟨am_iload_n_ok (k := 3) X (by decide +kernel), ?_⟩
  refine List.forall_mem_cons.mpr ⟨am_aload_n_ok (k := 0) X (by decide +kernel), ?_⟩
  refine List.forall_mem_cons.mpr ⟨am_get_ok (C := R_Mo) (T := F_Mo) (N := 13) (idx := 63) X rfl (by decide) (fun w h => List.mem_cons_of_mem _ (u_Mo w h)) (List.mem_cons_of_mem _ w_Mo_63) (by decide +kernel), ?_⟩
  refine List.forall_mem_cons.mpr ⟨am_icmp_ge_ok (off := 87) X (by decide +kernel) (by decide), ?_⟩
  refine List.forall_mem_cons.mpr ⟨am_aload_n_ok (k := 0) X (by decide +kernel), ?_⟩
  refine List.forall_mem_cons.mpr ⟨am_iconst_ok X (by decide +kernel), ?_⟩
  refine List.forall_mem_cons.mpr ⟨am_aload_n_ok (k := 0) X (by decide +kernel), ?_⟩
  refine List.forall_mem_cons.mpr ⟨am_iload_n_ok (k := 3) X (by decide +kernel), ?_⟩
  refine List.forall_mem_cons.mpr ⟨am_callV_ok (C := R_Mo) (T := F_Mo) (N := 13) (idx := 119) X rfl (am_GV m_Mo_119 v_Mo_heightOf.1 v_Mo_heightOf.2.1 v_Mo_heightOf.2.2.1 v_Mo_heightOf.2.2.2) ⟨rfl, v_Mo_heightOfd⟩ ⟨by decide, by decide⟩ (Nat.zero_le _) (by decide +kernel), ?_⟩
  refine List.forall_mem_cons.mpr ⟨am_iload_n_ok (k := 1) X (by decide +kernel), ?_⟩
  refine List.forall_mem_cons.mpr ⟨am_if_ne_ok (off := 11) X (by decide +kernel) (by decide), ?_⟩
  refine List.forall_mem_cons.mpr ⟨am_aload_n_ok (k := 0) X (by decide +kernel), ?_⟩
  refine List.forall_mem_cons.mpr ⟨am_iload_n_ok (k := 3) X (by decide +kernel), ?_⟩
  refine List.forall_mem_cons.mpr ⟨am_callV_ok (C := R_Mo) (T := F_Mo) (N := 13) (idx := 119) X rfl (am_GV m_Mo_119 v_Mo_heightOf.1 v_Mo_heightOf.2.1 v_Mo_heightOf.2.2.1 v_Mo_heightOf.2.2.2) ⟨rfl, v_Mo_heightOfd⟩ ⟨by decide, by decide⟩ (Nat.zero_le _) (by decide +kernel), ?_⟩
  refine List.forall_mem_cons.mpr ⟨am_goto_ok (off := 8) X (by decide +kernel) (by decide), ?_⟩
  refine List.forall_mem_cons.mpr ⟨am_aload_n_ok (k := 0) X (by decide +kernel), ?_⟩
  refine List.forall_mem_cons.mpr ⟨am_iload_n_ok (k := 3) X (by decide +kernel), ?_⟩
  refine List.forall_mem_cons.mpr ⟨am_callV_ok (C := R_Mo) (T := F_Mo) (N := 13) (idx := 123) X rfl (am_GV m_Mo_123 v_Mo_spanOf.1 v_Mo_spanOf.2.1 v_Mo_spanOf.2.2.1 v_Mo_spanOf.2.2.2) ⟨rfl, v_Mo_spanOfd⟩ ⟨by decide, by decide⟩ (Nat.zero_le _) (by decide +kernel), ?_⟩
  refine List.forall_mem_cons.mpr ⟨am_aload_n_ok (k := 0) X (by decide +kernel), ?_⟩
  refine List.forall_mem_cons.mpr ⟨am_iload_n_ok (k := 2) X (by decide +kernel), ?_⟩
  refine List.forall_mem_cons.mpr ⟨am_callV_ok (C := R_Mo) (T := F_Mo) (N := 13) (idx := 126) X rfl (am_GV m_Mo_126 v_Mo_lengthOf.1 v_Mo_lengthOf.2.1 v_Mo_lengthOf.2.2.1 v_Mo_lengthOf.2.2.2) ⟨rfl, v_Mo_lengthOfd⟩ ⟨by decide, by decide⟩ (Nat.zero_le _) (by decide +kernel), ?_⟩
  refine List.forall_mem_cons.mpr ⟨am_callV_ok (C := R_Mo) (T := F_Mo) (N := 13) (idx := 129) X rfl (am_GV m_Mo_129 v_Mo_product.1 v_Mo_product.2.1 v_Mo_product.2.2.1 v_Mo_product.2.2.2) ⟨rfl, v_Mo_productd⟩ ⟨by decide, by decide⟩ (Nat.zero_le _) (by decide +kernel), ?_⟩
  refine List.forall_mem_cons.mpr ⟨am_aload_n_ok (k := 0) X (by decide +kernel), ?_⟩
  refine List.forall_mem_cons.mpr ⟨am_bipush_ok X (by decide +kernel) (by decide), ?_⟩
  refine List.forall_mem_cons.mpr ⟨am_aload_n_ok (k := 0) X (by decide +kernel), ?_⟩
  refine List.forall_mem_cons.mpr ⟨am_iload_n_ok (k := 2) X (by decide +kernel), ?_⟩
  refine List.forall_mem_cons.mpr ⟨am_callV_ok (C := R_Mo) (T := F_Mo) (N := 13) (idx := 119) X rfl (am_GV m_Mo_119 v_Mo_heightOf.1 v_Mo_heightOf.2.1 v_Mo_heightOf.2.2.1 v_Mo_heightOf.2.2.2) ⟨rfl, v_Mo_heightOfd⟩ ⟨by decide, by decide⟩ (Nat.zero_le _) (by decide +kernel), ?_⟩
  refine List.forall_mem_cons.mpr ⟨am_iload_n_ok (k := 1) X (by decide +kernel), ?_⟩
  refine List.forall_mem_cons.mpr ⟨am_if_ne_ok (off := 11) X (by decide +kernel) (by decide), ?_⟩
  refine List.forall_mem_cons.mpr ⟨am_aload_n_ok (k := 0) X (by decide +kernel), ?_⟩
  refine List.forall_mem_cons.mpr ⟨am_iload_n_ok (k := 2) X (by decide +kernel), ?_⟩
  refine List.forall_mem_cons.mpr ⟨am_callV_ok (C := R_Mo) (T := F_Mo) (N := 13) (idx := 119) X rfl (am_GV m_Mo_119 v_Mo_heightOf.1 v_Mo_heightOf.2.1 v_Mo_heightOf.2.2.1 v_Mo_heightOf.2.2.2) ⟨rfl, v_Mo_heightOfd⟩ ⟨by decide, by decide⟩ (Nat.zero_le _) (by decide +kernel), ?_⟩
  refine List.forall_mem_cons.mpr ⟨am_goto_ok (off := 8) X (by decide +kernel) (by decide), ?_⟩
  refine List.forall_mem_cons.mpr ⟨am_aload_n_ok (k := 0) X (by decide +kernel), ?_⟩
  refine List.forall_mem_cons.mpr ⟨am_iload_n_ok (k := 2) X (by decide +kernel), ?_⟩
  refine List.forall_mem_cons.mpr ⟨am_callV_ok (C := R_Mo) (T := F_Mo) (N := 13) (idx := 123) X rfl (am_GV m_Mo_123 v_Mo_spanOf.1 v_Mo_spanOf.2.1 v_Mo_spanOf.2.2.1 v_Mo_spanOf.2.2.2) ⟨rfl, v_Mo_spanOfd⟩ ⟨by decide, by decide⟩ (Nat.zero_le _) (by decide +kernel), ?_⟩
  refine List.forall_mem_cons.mpr ⟨am_aload_n_ok (k := 0) X (by decide +kernel), ?_⟩
  refine List.forall_mem_cons.mpr ⟨am_iload_n_ok (k := 3) X (by decide +kernel), ?_⟩
  refine List.forall_mem_cons.mpr ⟨am_callV_ok (C := R_Mo) (T := F_Mo) (N := 13) (idx := 126) X rfl (am_GV m_Mo_126 v_Mo_lengthOf.1 v_Mo_lengthOf.2.1 v_Mo_lengthOf.2.2.1 v_Mo_lengthOf.2.2.2) ⟨rfl, v_Mo_lengthOfd⟩ ⟨by decide, by decide⟩ (Nat.zero_le _) (by decide +kernel), ?_⟩
  refine List.forall_mem_cons.mpr ⟨am_callV_ok (C := R_Mo) (T := F_Mo) (N := 13) (idx := 129) X rfl (am_GV m_Mo_129 v_Mo_product.1 v_Mo_product.2.1 v_Mo_product.2.2.1 v_Mo_product.2.2.2) ⟨rfl, v_Mo_productd⟩ ⟨by decide, by decide⟩ (Nat.zero_le _) (by decide +kernel), ?_⟩
  refine List.forall_mem_cons.mpr ⟨am_aload_n_ok (k := 0) X (by decide +kernel), ?_⟩
  refine List.forall_mem_cons.mpr ⟨am_callV_ok (C := R_Mo) (T := F_Mo) (N := 13) (idx := 133) X rfl (am_GV m_Mo_133 v_Mo_isLess.1 v_Mo_isLess.2.1 v_Mo_isLess.2.2.1 v_Mo_isLess.2.2.2) ⟨rfl, v_Mo_isLessd⟩ ⟨by decide, by decide⟩ (Nat.zero_le _) (by decide +kernel), ?_⟩
  refine List.forall_mem_cons.mpr ⟨am_if_eq_ok (off := 7) X (by decide +kernel) (by decide), ?_⟩
  refine List.forall_mem_cons.mpr ⟨am_iload_n_ok (k := 3) X (by decide +kernel), ?_⟩
  refine List.forall_mem_cons.mpr ⟨am_goto_ok (off := 4) X (by decide +kernel) (by decide), ?_⟩
  refine List.forall_mem_cons.mpr ⟨am_iload_n_ok (k := 2) X (by decide +kernel), ?_⟩
  refine List.forall_mem_cons.mpr ⟨am_istore_n_ok (k := 2) X (by decide) (by decide +kernel), ?_⟩
  refine List.forall_mem_cons.mpr ⟨am_iinc_ok X (by decide) (by decide +kernel), ?_⟩
  refine List.forall_mem_cons.mpr ⟨am_goto_ok (off := -89) X (by decide +kernel) (by decide), ?_⟩
  refine List.forall_mem_cons.mpr ⟨am_iload_n_ok (k := 2) X (by decide +kernel), ?_⟩
  refine List.forall_mem_cons.mpr ⟨am_ret_ok X hr (by decide +kernel), ?_⟩
  exact fun _ h => absurd h List.not_mem_nil
abbrev b_Mo_side : AT := [(0, am_ald 0 1), (1, am_callV am_Y 9 106 0), (4, am_ald 0 1), (5, am_ald 0 1), (6, am_get am_Y 9 8), (9, am_ic 3 1), (10, am_icmp 2 25), (13, am_ild 1 1), (14, am_if 2 25), (17, am_ild 1 1), (18, am_ald 0 1), (19, am_get am_Y 9 8), (22, am_icmp 2 29), (25, am_ic 1 1), (26, am_goto 43), (29, am_ild 2 1), (30, am_if 2 38), (33, am_ild 2 1), (34, am_ic 2 1), (35, am_icmp 5 42), (38, am_ic 2 1), (39, am_goto 43), (42, am_ic 0 1), (43, am_put am_Y 9 0), (46, am_ald 0 1), (47, am_get am_Y 9 0), (50, am_if 5 57), (53, am_lc 0 1), (54, am_goto 87), (57, am_ild 2 1), (58, am_if 1 69), (61, am_ald 0 1), (62, am_ild 1 1), (63, am_callV am_Y 9 117 1), (66, am_goto 87), (69, am_ild 2 1), (70, am_ic 1 1), (71, am_icmp 1 82), (74, am_ald 0 1), (75, am_ild 1 1), (76, am_callV am_Y 9 118 1), (79, am_goto 87), (82, am_ald 0 1), (83, am_ild 1 1), (84, am_callV am_Y 9 119 1), (87, am_lret)]
set_option maxRecDepth 100000 in
set_option maxHeartbeats 4000000 in
theorem T_Mo_side : am_T am_Y am_cl am_Gw am_mi 124 b_Mo_side := by
  intro E A p l e s m args below meth c Rt X hr
  refine List.forall_mem_cons.mpr ⟨am_aload_n_ok (k := 0) X (by decide +kernel), ?_⟩
  refine List.forall_mem_cons.mpr ⟨am_callV_ok (C := R_Mo) (T := F_Mo) (N := 13) (idx := 100) X rfl (am_GV m_Mo_100 v_Mo_hull.1 v_Mo_hull.2.1 v_Mo_hull.2.2.1 v_Mo_hull.2.2.2) ⟨rfl, v_Mo_hulld⟩ ⟨by decide, by decide⟩ (Nat.zero_le _) (by decide +kernel), ?_⟩
  refine List.forall_mem_cons.mpr ⟨am_aload_n_ok (k := 0) X (by decide +kernel), ?_⟩
  refine List.forall_mem_cons.mpr ⟨am_aload_n_ok (k := 0) X (by decide +kernel), ?_⟩
  refine List.forall_mem_cons.mpr ⟨am_get_ok (C := R_Mo) (T := F_Mo) (N := 13) (idx := 63) X rfl (by decide) (fun w h => List.mem_cons_of_mem _ (u_Mo w h)) (List.mem_cons_of_mem _ w_Mo_63) (by decide +kernel), ?_⟩
  refine List.forall_mem_cons.mpr ⟨am_iconst_ok X (by decide +kernel), ?_⟩
  refine List.forall_mem_cons.mpr ⟨am_icmp_lt_ok (off := 15) X (by decide +kernel) (by decide), ?_⟩
  refine List.forall_mem_cons.mpr ⟨am_iload_n_ok (k := 1) X (by decide +kernel), ?_⟩
  refine List.forall_mem_cons.mpr ⟨am_if_lt_ok (off := 11) X (by decide +kernel) (by decide), ?_⟩
  refine List.forall_mem_cons.mpr ⟨am_iload_n_ok (k := 1) X (by decide +kernel), ?_⟩
  refine List.forall_mem_cons.mpr ⟨am_aload_n_ok (k := 0) X (by decide +kernel), ?_⟩
  refine List.forall_mem_cons.mpr ⟨am_get_ok (C := R_Mo) (T := F_Mo) (N := 13) (idx := 63) X rfl (by decide) (fun w h => List.mem_cons_of_mem _ (u_Mo w h)) (List.mem_cons_of_mem _ w_Mo_63) (by decide +kernel), ?_⟩
  refine List.forall_mem_cons.mpr ⟨am_icmp_lt_ok (off := 7) X (by decide +kernel) (by decide), ?_⟩
  refine List.forall_mem_cons.mpr ⟨am_iconst_ok X (by decide +kernel), ?_⟩
  refine List.forall_mem_cons.mpr ⟨am_goto_ok (off := 17) X (by decide +kernel) (by decide), ?_⟩
  refine List.forall_mem_cons.mpr ⟨am_iload_n_ok (k := 2) X (by decide +kernel), ?_⟩
  refine List.forall_mem_cons.mpr ⟨am_if_lt_ok (off := 8) X (by decide +kernel) (by decide), ?_⟩
  refine List.forall_mem_cons.mpr ⟨am_iload_n_ok (k := 2) X (by decide +kernel), ?_⟩
  refine List.forall_mem_cons.mpr ⟨am_iconst_ok X (by decide +kernel), ?_⟩
  refine List.forall_mem_cons.mpr ⟨am_icmp_le_ok (off := 7) X (by decide +kernel) (by decide), ?_⟩
  refine List.forall_mem_cons.mpr ⟨am_iconst_ok X (by decide +kernel), ?_⟩
  refine List.forall_mem_cons.mpr ⟨am_goto_ok (off := 4) X (by decide +kernel) (by decide), ?_⟩
  refine List.forall_mem_cons.mpr ⟨am_iconst_ok X (by decide +kernel), ?_⟩
  refine List.forall_mem_cons.mpr ⟨am_put_ok (C := R_Mo) (T := F_Mo) (N := 13) (idx := 39) X rfl (by decide) (fun w h => List.mem_cons_of_mem _ (u_Mo w h)) t_Mo_ok n_Mo rfl (by decide +kernel) (List.mem_cons_of_mem _ w_Mo_39) (by decide +kernel), ?_⟩
  refine List.forall_mem_cons.mpr ⟨am_aload_n_ok (k := 0) X (by decide +kernel), ?_⟩
  refine List.forall_mem_cons.mpr ⟨am_get_ok (C := R_Mo) (T := F_Mo) (N := 13) (idx := 39) X rfl (by decide) (fun w h => List.mem_cons_of_mem _ (u_Mo w h)) (List.mem_cons_of_mem _ w_Mo_39) (by decide +kernel), ?_⟩
  refine List.forall_mem_cons.mpr ⟨am_if_le_ok (off := 7) X (by decide +kernel) (by decide), ?_⟩
  refine List.forall_mem_cons.mpr ⟨am_lconst_ok (n := 0) X (by decide +kernel), ?_⟩
  refine List.forall_mem_cons.mpr ⟨am_goto_ok (off := 33) X (by decide +kernel) (by decide), ?_⟩
  refine List.forall_mem_cons.mpr ⟨am_iload_n_ok (k := 2) X (by decide +kernel), ?_⟩
  refine List.forall_mem_cons.mpr ⟨am_if_ne_ok (off := 11) X (by decide +kernel) (by decide), ?_⟩
  refine List.forall_mem_cons.mpr ⟨am_aload_n_ok (k := 0) X (by decide +kernel), ?_⟩
  refine List.forall_mem_cons.mpr ⟨am_iload_n_ok (k := 1) X (by decide +kernel), ?_⟩
  refine List.forall_mem_cons.mpr ⟨am_callV_ok (C := R_Mo) (T := F_Mo) (N := 13) (idx := 119) X rfl (am_GV m_Mo_119 v_Mo_heightOf.1 v_Mo_heightOf.2.1 v_Mo_heightOf.2.2.1 v_Mo_heightOf.2.2.2) ⟨rfl, v_Mo_heightOfd⟩ ⟨by decide, by decide⟩ (Nat.zero_le _) (by decide +kernel), ?_⟩
  refine List.forall_mem_cons.mpr ⟨am_goto_ok (off := 21) X (by decide +kernel) (by decide), ?_⟩
  refine List.forall_mem_cons.mpr ⟨am_iload_n_ok (k := 2) X (by decide +kernel), ?_⟩
  refine List.forall_mem_cons.mpr ⟨am_iconst_ok X (by decide +kernel), ?_⟩
  refine List.forall_mem_cons.mpr ⟨am_icmp_ne_ok (off := 11) X (by decide +kernel) (by decide), ?_⟩
  refine List.forall_mem_cons.mpr ⟨am_aload_n_ok (k := 0) X (by decide +kernel), ?_⟩
  refine List.forall_mem_cons.mpr ⟨am_iload_n_ok (k := 1) X (by decide +kernel), ?_⟩
  refine List.forall_mem_cons.mpr ⟨am_callV_ok (C := R_Mo) (T := F_Mo) (N := 13) (idx := 126) X rfl (am_GV m_Mo_126 v_Mo_lengthOf.1 v_Mo_lengthOf.2.1 v_Mo_lengthOf.2.2.1 v_Mo_lengthOf.2.2.2) ⟨rfl, v_Mo_lengthOfd⟩ ⟨by decide, by decide⟩ (Nat.zero_le _) (by decide +kernel), ?_⟩
  refine List.forall_mem_cons.mpr ⟨am_goto_ok (off := 8) X (by decide +kernel) (by decide), ?_⟩
  refine List.forall_mem_cons.mpr ⟨am_aload_n_ok (k := 0) X (by decide +kernel), ?_⟩
  refine List.forall_mem_cons.mpr ⟨am_iload_n_ok (k := 1) X (by decide +kernel), ?_⟩
  refine List.forall_mem_cons.mpr ⟨am_callV_ok (C := R_Mo) (T := F_Mo) (N := 13) (idx := 123) X rfl (am_GV m_Mo_123 v_Mo_spanOf.1 v_Mo_spanOf.2.1 v_Mo_spanOf.2.2.1 v_Mo_spanOf.2.2.2) ⟨rfl, v_Mo_spanOfd⟩ ⟨by decide, by decide⟩ (Nat.zero_le _) (by decide +kernel), ?_⟩
  refine List.forall_mem_cons.mpr ⟨am_lret_ok X hr (by decide +kernel), ?_⟩
  exact fun _ h => absurd h List.not_mem_nil
abbrev b_Mo_where : AT := [(0, am_ald 0 1), (1, am_ild 1 1), (2, am_callS 92 1), (5, am_if 1 15), (8, am_ild 2 1), (9, am_callS 92 1), (12, am_if 0 19), (15, am_ic 1 1), (16, am_goto 20), (19, am_ic 0 1), (20, am_put am_Y 9 0), (23, am_ald 0 1), (24, am_get am_Y 9 0), (27, am_if 5 32), (30, am_ic 0 1), (31, am_ret), (32, am_ald 0 1), (33, am_callV am_Y 9 106 0), (36, am_ald 0 1), (37, am_ild 1 1), (38, am_ild 2 1), (39, am_callV am_Y 9 104 2), (42, am_ret)]
set_option maxRecDepth 100000 in
set_option maxHeartbeats 4000000 in
theorem T_Mo_where : am_T am_Y am_cl am_Gw am_mi 125 b_Mo_where := by
  intro E A p l e s m args below meth c Rt X hr
  refine List.forall_mem_cons.mpr ⟨am_aload_n_ok (k := 0) X (by decide +kernel), ?_⟩
  refine List.forall_mem_cons.mpr ⟨am_iload_n_ok (k := 1) X (by decide +kernel), ?_⟩
  refine List.forall_mem_cons.mpr ⟨am_callS_ok (idx := 43) X (am_GS m_Mo_43 v_Mo_isFar.1 v_Mo_isFar.2.1 v_Mo_isFar.2.2) ⟨rfl, v_Mo_isFard⟩ ⟨by decide, by decide⟩ (by decide +kernel), ?_⟩
  refine List.forall_mem_cons.mpr ⟨am_if_ne_ok (off := 10) X (by decide +kernel) (by decide), ?_⟩
  refine List.forall_mem_cons.mpr ⟨am_iload_n_ok (k := 2) X (by decide +kernel), ?_⟩
  refine List.forall_mem_cons.mpr ⟨am_callS_ok (idx := 43) X (am_GS m_Mo_43 v_Mo_isFar.1 v_Mo_isFar.2.1 v_Mo_isFar.2.2) ⟨rfl, v_Mo_isFard⟩ ⟨by decide, by decide⟩ (by decide +kernel), ?_⟩
  refine List.forall_mem_cons.mpr ⟨am_if_eq_ok (off := 7) X (by decide +kernel) (by decide), ?_⟩
  refine List.forall_mem_cons.mpr ⟨am_iconst_ok X (by decide +kernel), ?_⟩
  refine List.forall_mem_cons.mpr ⟨am_goto_ok (off := 4) X (by decide +kernel) (by decide), ?_⟩
  refine List.forall_mem_cons.mpr ⟨am_iconst_ok X (by decide +kernel), ?_⟩
  refine List.forall_mem_cons.mpr ⟨am_put_ok (C := R_Mo) (T := F_Mo) (N := 13) (idx := 39) X rfl (by decide) (fun w h => List.mem_cons_of_mem _ (u_Mo w h)) t_Mo_ok n_Mo rfl (by decide +kernel) (List.mem_cons_of_mem _ w_Mo_39) (by decide +kernel), ?_⟩
  refine List.forall_mem_cons.mpr ⟨am_aload_n_ok (k := 0) X (by decide +kernel), ?_⟩
  refine List.forall_mem_cons.mpr ⟨am_get_ok (C := R_Mo) (T := F_Mo) (N := 13) (idx := 39) X rfl (by decide) (fun w h => List.mem_cons_of_mem _ (u_Mo w h)) (List.mem_cons_of_mem _ w_Mo_39) (by decide +kernel), ?_⟩
  refine List.forall_mem_cons.mpr ⟨am_if_le_ok (off := 5) X (by decide +kernel) (by decide), ?_⟩
  refine List.forall_mem_cons.mpr ⟨am_iconst_ok X (by decide +kernel), ?_⟩
  refine List.forall_mem_cons.mpr ⟨am_ret_ok X hr (by decide +kernel), ?_⟩
  refine List.forall_mem_cons.mpr ⟨am_aload_n_ok (k := 0) X (by decide +kernel), ?_⟩
  refine List.forall_mem_cons.mpr ⟨am_callV_ok (C := R_Mo) (T := F_Mo) (N := 13) (idx := 100) X rfl (am_GV m_Mo_100 v_Mo_hull.1 v_Mo_hull.2.1 v_Mo_hull.2.2.1 v_Mo_hull.2.2.2) ⟨rfl, v_Mo_hulld⟩ ⟨by decide, by decide⟩ (Nat.zero_le _) (by decide +kernel), ?_⟩
  refine List.forall_mem_cons.mpr ⟨am_aload_n_ok (k := 0) X (by decide +kernel), ?_⟩
  refine List.forall_mem_cons.mpr ⟨am_iload_n_ok (k := 1) X (by decide +kernel), ?_⟩
  refine List.forall_mem_cons.mpr ⟨am_iload_n_ok (k := 2) X (by decide +kernel), ?_⟩
  refine List.forall_mem_cons.mpr ⟨am_callV_ok (C := R_Mo) (T := F_Mo) (N := 13) (idx := 96) X rfl (am_GV m_Mo_96 v_Mo_whereIs.1 v_Mo_whereIs.2.1 v_Mo_whereIs.2.2.1 v_Mo_whereIs.2.2.2) ⟨rfl, v_Mo_whereIsd⟩ ⟨by decide, by decide⟩ (Nat.zero_le _) (by decide +kernel), ?_⟩
  refine List.forall_mem_cons.mpr ⟨am_ret_ok X hr (by decide +kernel), ?_⟩
  exact fun _ h => absurd h List.not_mem_nil
abbrev b_Mo_nearest : AT := [(0, am_ald 0 1), (1, am_ild 1 1), (2, am_callS 92 1), (5, am_if 1 15), (8, am_ild 2 1), (9, am_callS 92 1), (12, am_if 0 19), (15, am_ic 1 1), (16, am_goto 20), (19, am_ic 0 1), (20, am_put am_Y 9 0), (23, am_ic (-1) 1), (24, am_ist 3 1), (25, am_ald 0 1), (26, am_get am_Y 9 3), (29, am_ic 1 1), (30, am_isub), (31, am_ist 4 2), (33, am_ild 4 2), (35, am_if 2 74), (38, am_ild 3 1), (39, am_if 2 61), (42, am_ald 0 1), (43, am_ild 4 2), (45, am_ild 1 1), (46, am_ild 2 1), (47, am_callV am_Y 9 97 3), (50, am_ald 0 1), (51, am_ild 3 1), (52, am_ild 1 1), (53, am_ild 2 1), (54, am_callV am_Y 9 97 3), (57, am_lcmp 4 66), (61, am_ild 4 2), (63, am_goto 67), (66, am_ild 3 1), (67, am_ist 3 1), (68, am_inc 4 (-1)), (71, am_goto 33), (74, am_ald 0 1), (75, am_get am_Y 9 0), (78, am_if 5 85), (81, am_ic 0 1), (82, am_goto 86), (85, am_ild 3 1), (86, am_ret)]
set_option maxRecDepth 100000 in
set_option maxHeartbeats 4000000 in
theorem T_Mo_nearest : am_T am_Y am_cl am_Gw am_mi 126 b_Mo_nearest := by
  intro E A p l e s m args below meth c Rt X hr
  refine List.forall_mem_cons.mpr ⟨am_aload_n_ok (k := 0) X (by decide +kernel), ?_⟩
  refine List.forall_mem_cons.mpr ⟨am_iload_n_ok (k := 1) X (by decide +kernel), ?_⟩
  refine List.forall_mem_cons.mpr ⟨am_callS_ok (idx := 43) X (am_GS m_Mo_43 v_Mo_isFar.1 v_Mo_isFar.2.1 v_Mo_isFar.2.2) ⟨rfl, v_Mo_isFard⟩ ⟨by decide, by decide⟩ (by decide +kernel), ?_⟩
  refine List.forall_mem_cons.mpr ⟨am_if_ne_ok (off := 10) X (by decide +kernel) (by decide), ?_⟩
  refine List.forall_mem_cons.mpr ⟨am_iload_n_ok (k := 2) X (by decide +kernel), ?_⟩
  refine List.forall_mem_cons.mpr ⟨am_callS_ok (idx := 43) X (am_GS m_Mo_43 v_Mo_isFar.1 v_Mo_isFar.2.1 v_Mo_isFar.2.2) ⟨rfl, v_Mo_isFard⟩ ⟨by decide, by decide⟩ (by decide +kernel), ?_⟩
  refine List.forall_mem_cons.mpr ⟨am_if_eq_ok (off := 7) X (by decide +kernel) (by decide), ?_⟩
  refine List.forall_mem_cons.mpr ⟨am_iconst_ok X (by decide +kernel), ?_⟩
  refine List.forall_mem_cons.mpr ⟨am_goto_ok (off := 4) X (by decide +kernel) (by decide), ?_⟩
  refine List.forall_mem_cons.mpr ⟨am_iconst_ok X (by decide +kernel), ?_⟩
  refine List.forall_mem_cons.mpr ⟨am_put_ok (C := R_Mo) (T := F_Mo) (N := 13) (idx := 39) X rfl (by decide) (fun w h => List.mem_cons_of_mem _ (u_Mo w h)) t_Mo_ok n_Mo rfl (by decide +kernel) (List.mem_cons_of_mem _ w_Mo_39) (by decide +kernel), ?_⟩
  refine List.forall_mem_cons.mpr ⟨am_iconst_ok X (by decide +kernel), ?_⟩
  refine List.forall_mem_cons.mpr ⟨am_istore_n_ok (k := 3) X (by decide) (by decide +kernel), ?_⟩
  refine List.forall_mem_cons.mpr ⟨am_aload_n_ok (k := 0) X (by decide +kernel), ?_⟩
  refine List.forall_mem_cons.mpr ⟨am_get_ok (C := R_Mo) (T := F_Mo) (N := 13) (idx := 47) X rfl (by decide) (fun w h => List.mem_cons_of_mem _ (u_Mo w h)) (List.mem_cons_of_mem _ w_Mo_47) (by decide +kernel), ?_⟩
  refine List.forall_mem_cons.mpr ⟨am_iconst_ok X (by decide +kernel), ?_⟩
  refine List.forall_mem_cons.mpr ⟨am_isub_ok X (by decide +kernel), ?_⟩
  refine List.forall_mem_cons.mpr ⟨am_istore_ok X (by decide) (by decide +kernel), ?_⟩
  refine List.forall_mem_cons.mpr ⟨am_iload_ok X (by decide +kernel), ?_⟩
  refine List.forall_mem_cons.mpr ⟨am_if_lt_ok (off := 39) X (by decide +kernel) (by decide), ?_⟩
  refine List.forall_mem_cons.mpr ⟨am_iload_n_ok (k := 3) X (by decide +kernel), ?_⟩
  refine List.forall_mem_cons.mpr ⟨am_if_lt_ok (off := 22) X (by decide +kernel) (by decide), ?_⟩
  refine List.forall_mem_cons.mpr ⟨am_aload_n_ok (k := 0) X (by decide +kernel), ?_⟩
  refine List.forall_mem_cons.mpr ⟨am_iload_ok X (by decide +kernel), ?_⟩
  refine List.forall_mem_cons.mpr ⟨am_iload_n_ok (k := 1) X (by decide +kernel), ?_⟩
  refine List.forall_mem_cons.mpr ⟨am_iload_n_ok (k := 2) X (by decide +kernel), ?_⟩
  refine List.forall_mem_cons.mpr ⟨am_callV_ok (C := R_Mo) (T := F_Mo) (N := 13) (idx := 80) X rfl (am_GV m_Mo_80 v_Mo_farOf.1 v_Mo_farOf.2.1 v_Mo_farOf.2.2.1 v_Mo_farOf.2.2.2) ⟨rfl, v_Mo_farOfd⟩ ⟨by decide, by decide⟩ (Nat.zero_le _) (by decide +kernel), ?_⟩
  refine List.forall_mem_cons.mpr ⟨am_aload_n_ok (k := 0) X (by decide +kernel), ?_⟩
  refine List.forall_mem_cons.mpr ⟨am_iload_n_ok (k := 3) X (by decide +kernel), ?_⟩
  refine List.forall_mem_cons.mpr ⟨am_iload_n_ok (k := 1) X (by decide +kernel), ?_⟩
  refine List.forall_mem_cons.mpr ⟨am_iload_n_ok (k := 2) X (by decide +kernel), ?_⟩
  refine List.forall_mem_cons.mpr ⟨am_callV_ok (C := R_Mo) (T := F_Mo) (N := 13) (idx := 80) X rfl (am_GV m_Mo_80 v_Mo_farOf.1 v_Mo_farOf.2.1 v_Mo_farOf.2.2.1 v_Mo_farOf.2.2.2) ⟨rfl, v_Mo_farOfd⟩ ⟨by decide, by decide⟩ (Nat.zero_le _) (by decide +kernel), ?_⟩
  refine List.forall_mem_cons.mpr ⟨am_lcmp_gt_ok (off := 8) X (by decide +kernel) (by decide +kernel) (by decide), ?_⟩
  refine List.forall_mem_cons.mpr ⟨am_iload_ok X (by decide +kernel), ?_⟩
  refine List.forall_mem_cons.mpr ⟨am_goto_ok (off := 4) X (by decide +kernel) (by decide), ?_⟩
  refine List.forall_mem_cons.mpr ⟨am_iload_n_ok (k := 3) X (by decide +kernel), ?_⟩
  refine List.forall_mem_cons.mpr ⟨am_istore_n_ok (k := 3) X (by decide) (by decide +kernel), ?_⟩
  refine List.forall_mem_cons.mpr ⟨am_iinc_ok X (by decide) (by decide +kernel), ?_⟩
  refine List.forall_mem_cons.mpr ⟨am_goto_ok (off := -38) X (by decide +kernel) (by decide), ?_⟩
  refine List.forall_mem_cons.mpr ⟨am_aload_n_ok (k := 0) X (by decide +kernel), ?_⟩
  refine List.forall_mem_cons.mpr ⟨am_get_ok (C := R_Mo) (T := F_Mo) (N := 13) (idx := 39) X rfl (by decide) (fun w h => List.mem_cons_of_mem _ (u_Mo w h)) (List.mem_cons_of_mem _ w_Mo_39) (by decide +kernel), ?_⟩
  refine List.forall_mem_cons.mpr ⟨am_if_le_ok (off := 7) X (by decide +kernel) (by decide), ?_⟩
  refine List.forall_mem_cons.mpr ⟨am_iconst_ok X (by decide +kernel), ?_⟩
  refine List.forall_mem_cons.mpr ⟨am_goto_ok (off := 4) X (by decide +kernel) (by decide), ?_⟩
  refine List.forall_mem_cons.mpr ⟨am_iload_n_ok (k := 3) X (by decide +kernel), ?_⟩
  refine List.forall_mem_cons.mpr ⟨am_ret_ok X hr (by decide +kernel), ?_⟩
  exact fun _ h => absurd h List.not_mem_nil
abbrev b_Mo_signOf : AT := [(0, am_lld 0 1), (1, am_lc 0 1), (2, am_lcmp 5 10), (6, am_ic 1 1), (7, am_goto 21), (10, am_lld 0 1), (11, am_lc 0 1), (12, am_lcmp 3 20), (16, am_ic (-1) 1), (17, am_goto 21), (20, am_ic 0 1), (21, am_ret)]
set_option maxRecDepth 100000 in
set_option maxHeartbeats 4000000 in
theorem T_Mo_signOf : am_T am_Y am_cl am_Gw am_mi 127 b_Mo_signOf := by
  intro E A p l e s m args below meth c Rt X hr
  refine List.forall_mem_cons.mpr ⟨am_lload_n_ok (k := 0) X (by decide +kernel), ?_⟩
  refine List.forall_mem_cons.mpr ⟨am_lconst_ok (n := 0) X (by decide +kernel), ?_⟩
  refine List.forall_mem_cons.mpr ⟨am_lcmp_le_ok (off := 7) X (by decide +kernel) (by decide +kernel) (by decide), ?_⟩
  refine List.forall_mem_cons.mpr ⟨am_iconst_ok X (by decide +kernel), ?_⟩
  refine List.forall_mem_cons.mpr ⟨am_goto_ok (off := 14) X (by decide +kernel) (by decide), ?_⟩
  refine List.forall_mem_cons.mpr ⟨am_lload_n_ok (k := 0) X (by decide +kernel), ?_⟩
  refine List.forall_mem_cons.mpr ⟨am_lconst_ok (n := 0) X (by decide +kernel), ?_⟩
  refine List.forall_mem_cons.mpr ⟨am_lcmp_ge_ok (off := 7) X (by decide +kernel) (by decide +kernel) (by decide), ?_⟩
  refine List.forall_mem_cons.mpr ⟨am_iconst_ok X (by decide +kernel), ?_⟩
  refine List.forall_mem_cons.mpr ⟨am_goto_ok (off := 4) X (by decide +kernel) (by decide), ?_⟩
  refine List.forall_mem_cons.mpr ⟨am_iconst_ok X (by decide +kernel), ?_⟩
  refine List.forall_mem_cons.mpr ⟨am_ret_ok X hr (by decide +kernel), ?_⟩
  exact fun _ h => absurd h List.not_mem_nil
abbrev b_Mo_beside : AT := [(0, am_ald 0 1), (1, am_ald 0 1), (2, am_ild 1 1), (3, am_callV am_Y 9 110 1), (6, am_if 0 21), (9, am_ald 0 1), (10, am_ild 2 1), (11, am_callV am_Y 9 110 1), (14, am_if 0 21), (17, am_ic 0 1), (18, am_goto 22), (21, am_ic 1 1), (22, am_put am_Y 9 0), (25, am_ald 0 1), (26, am_get am_Y 9 0), (29, am_if 5 34), (32, am_ic 0 1), (33, am_ret), (34, am_ald 0 1), (35, am_ild 1 1), (36, am_ild 2 1), (37, am_callV am_Y 9 98 2), (40, am_if 1 53), (43, am_ild 3 1), (44, am_ic (-1) 1), (45, am_icmp 2 53), (48, am_ild 3 1), (49, am_ic 1 1), (50, am_icmp 5 55), (53, am_ic (-1) 1), (54, am_ret), (55, am_ic 0 1), (56, am_ist 4 2), (58, am_ic 0 1), (59, am_ist 5 2), (61, am_ild 5 2), (63, am_ald 0 1), (64, am_get am_Y 9 3), (67, am_icmp 3 102), (70, am_ald 0 1), (71, am_ild 1 1), (72, am_ild 2 1), (73, am_ild 5 2), (75, am_callV am_Y 9 96 3), (78, am_callS 127 1), (81, am_ild 3 1), (82, am_icmp 1 92), (85, am_ild 4 2), (87, am_ic 1 1), (88, am_iadd), (89, am_goto 94), (92, am_ild 4 2), (94, am_ist 4 2), (96, am_inc 5 (1)), (99, am_goto 61), (102, am_ild 4 2), (104, am_ret)]
set_option maxRecDepth 100000 in
set_option maxHeartbeats 4000000 in
theorem T_Mo_beside : am_T am_Y am_cl am_Gw am_mi 128 b_Mo_beside := by
  intro E A p l e s m args below meth c Rt X hr
  refine List.forall_mem_cons.mpr ⟨am_aload_n_ok (k := 0) X (by decide +kernel), ?_⟩
  refine List.forall_mem_cons.mpr ⟨am_aload_n_ok (k := 0) X (by decide +kernel), ?_⟩
  refine List.forall_mem_cons.mpr ⟨am_iload_n_ok (k := 1) X (by decide +kernel), ?_⟩
  refine List.forall_mem_cons.mpr ⟨am_callV_ok (C := R_Mo) (T := F_Mo) (N := 13) (idx := 110) X rfl (am_GV m_Mo_110 v_Mo_isPoint.1 v_Mo_isPoint.2.1 v_Mo_isPoint.2.2.1 v_Mo_isPoint.2.2.2) ⟨rfl, v_Mo_isPointd⟩ ⟨by decide, by decide⟩ (Nat.zero_le _) (by decide +kernel), ?_⟩
  refine List.forall_mem_cons.mpr ⟨am_if_eq_ok (off := 15) X (by decide +kernel) (by decide), ?_⟩
  refine List.forall_mem_cons.mpr ⟨am_aload_n_ok (k := 0) X (by decide +kernel), ?_⟩
  refine List.forall_mem_cons.mpr ⟨am_iload_n_ok (k := 2) X (by decide +kernel), ?_⟩
  refine List.forall_mem_cons.mpr ⟨am_callV_ok (C := R_Mo) (T := F_Mo) (N := 13) (idx := 110) X rfl (am_GV m_Mo_110 v_Mo_isPoint.1 v_Mo_isPoint.2.1 v_Mo_isPoint.2.2.1 v_Mo_isPoint.2.2.2) ⟨rfl, v_Mo_isPointd⟩ ⟨by decide, by decide⟩ (Nat.zero_le _) (by decide +kernel), ?_⟩
  refine List.forall_mem_cons.mpr ⟨am_if_eq_ok (off := 7) X (by decide +kernel) (by decide), ?_⟩
  refine List.forall_mem_cons.mpr ⟨am_iconst_ok X (by decide +kernel), ?_⟩
  refine List.forall_mem_cons.mpr ⟨am_goto_ok (off := 4) X (by decide +kernel) (by decide), ?_⟩
  refine List.forall_mem_cons.mpr ⟨am_iconst_ok X (by decide +kernel), ?_⟩
  refine List.forall_mem_cons.mpr ⟨am_put_ok (C := R_Mo) (T := F_Mo) (N := 13) (idx := 39) X rfl (by decide) (fun w h => List.mem_cons_of_mem _ (u_Mo w h)) t_Mo_ok n_Mo rfl (by decide +kernel) (List.mem_cons_of_mem _ w_Mo_39) (by decide +kernel), ?_⟩
  refine List.forall_mem_cons.mpr ⟨am_aload_n_ok (k := 0) X (by decide +kernel), ?_⟩
  refine List.forall_mem_cons.mpr ⟨am_get_ok (C := R_Mo) (T := F_Mo) (N := 13) (idx := 39) X rfl (by decide) (fun w h => List.mem_cons_of_mem _ (u_Mo w h)) (List.mem_cons_of_mem _ w_Mo_39) (by decide +kernel), ?_⟩
  refine List.forall_mem_cons.mpr ⟨am_if_le_ok (off := 5) X (by decide +kernel) (by decide), ?_⟩
  refine List.forall_mem_cons.mpr ⟨am_iconst_ok X (by decide +kernel), ?_⟩
  refine List.forall_mem_cons.mpr ⟨am_ret_ok X hr (by decide +kernel), ?_⟩
  refine List.forall_mem_cons.mpr ⟨am_aload_n_ok (k := 0) X (by decide +kernel), ?_⟩
  refine List.forall_mem_cons.mpr ⟨am_iload_n_ok (k := 1) X (by decide +kernel), ?_⟩
  refine List.forall_mem_cons.mpr ⟨am_iload_n_ok (k := 2) X (by decide +kernel), ?_⟩
  refine List.forall_mem_cons.mpr ⟨am_callV_ok (C := R_Mo) (T := F_Mo) (N := 13) (idx := 70) X rfl (am_GV m_Mo_70 v_Mo_isSame.1 v_Mo_isSame.2.1 v_Mo_isSame.2.2.1 v_Mo_isSame.2.2.2) ⟨rfl, v_Mo_isSamed⟩ ⟨by decide, by decide⟩ (Nat.zero_le _) (by decide +kernel), ?_⟩
  refine List.forall_mem_cons.mpr ⟨am_if_ne_ok (off := 13) X (by decide +kernel) (by decide), ?_⟩
  refine List.forall_mem_cons.mpr ⟨am_iload_n_ok (k := 3) X (by decide +kernel), ?_⟩
  refine List.forall_mem_cons.mpr ⟨am_iconst_ok X (by decide +kernel), ?_⟩
  refine List.forall_mem_cons.mpr ⟨am_icmp_lt_ok (off := 8) X (by decide +kernel) (by decide), ?_⟩
  refine List.forall_mem_cons.mpr ⟨am_iload_n_ok (k := 3) X (by decide +kernel), ?_⟩
  refine List.forall_mem_cons.mpr ⟨am_iconst_ok X (by decide +kernel), ?_⟩
  refine List.forall_mem_cons.mpr ⟨am_icmp_le_ok (off := 5) X (by decide +kernel) (by decide), ?_⟩
  refine List.forall_mem_cons.mpr ⟨am_iconst_ok X (by decide +kernel), ?_⟩
  refine List.forall_mem_cons.mpr ⟨am_ret_ok X hr (by decide +kernel), ?_⟩
  refine List.forall_mem_cons.mpr ⟨am_iconst_ok X (by decide +kernel), ?_⟩
  refine List.forall_mem_cons.mpr ⟨am_istore_ok X (by decide) (by decide +kernel), ?_⟩
  refine List.forall_mem_cons.mpr ⟨am_iconst_ok X (by decide +kernel), ?_⟩
  refine List.forall_mem_cons.mpr ⟨am_istore_ok X (by decide) (by decide +kernel), ?_⟩
  refine List.forall_mem_cons.mpr ⟨am_iload_ok X (by decide +kernel), ?_⟩
  refine List.forall_mem_cons.mpr ⟨am_aload_n_ok (k := 0) X (by decide +kernel), ?_⟩
  refine List.forall_mem_cons.mpr ⟨am_get_ok (C := R_Mo) (T := F_Mo) (N := 13) (idx := 47) X rfl (by decide) (fun w h => List.mem_cons_of_mem _ (u_Mo w h)) (List.mem_cons_of_mem _ w_Mo_47) (by decide +kernel), ?_⟩
  refine List.forall_mem_cons.mpr ⟨am_icmp_ge_ok (off := 35) X (by decide +kernel) (by decide), ?_⟩
  refine List.forall_mem_cons.mpr ⟨am_aload_n_ok (k := 0) X (by decide +kernel), ?_⟩
  refine List.forall_mem_cons.mpr ⟨am_iload_n_ok (k := 1) X (by decide +kernel), ?_⟩
  refine List.forall_mem_cons.mpr ⟨am_iload_n_ok (k := 2) X (by decide +kernel), ?_⟩
  refine List.forall_mem_cons.mpr ⟨am_iload_ok X (by decide +kernel), ?_⟩
  refine List.forall_mem_cons.mpr ⟨am_callV_ok (C := R_Mo) (T := F_Mo) (N := 13) (idx := 76) X rfl (am_GV m_Mo_76 v_Mo_turnOf.1 v_Mo_turnOf.2.1 v_Mo_turnOf.2.2.1 v_Mo_turnOf.2.2.2) ⟨rfl, v_Mo_turnOfd⟩ ⟨by decide, by decide⟩ (Nat.zero_le _) (by decide +kernel), ?_⟩
  refine List.forall_mem_cons.mpr ⟨am_callS_ok (idx := 137) X (am_GS m_Mo_137 v_Mo_signOf.1 v_Mo_signOf.2.1 v_Mo_signOf.2.2) ⟨rfl, v_Mo_signOfd⟩ ⟨by decide, by decide⟩ (by decide +kernel), ?_⟩
  refine List.forall_mem_cons.mpr ⟨am_iload_n_ok (k := 3) X (by decide +kernel), ?_⟩
  refine List.forall_mem_cons.mpr ⟨am_icmp_ne_ok (off := 10) X (by decide +kernel) (by decide), ?_⟩
  refine List.forall_mem_cons.mpr ⟨am_iload_ok X (by decide +kernel), ?_⟩
  refine List.forall_mem_cons.mpr ⟨am_iconst_ok X (by decide +kernel), ?_⟩
  refine List.forall_mem_cons.mpr ⟨am_iadd_ok X (by decide +kernel), ?_⟩
  refine List.forall_mem_cons.mpr ⟨am_goto_ok (off := 5) X (by decide +kernel) (by decide), ?_⟩
  refine List.forall_mem_cons.mpr ⟨am_iload_ok X (by decide +kernel), ?_⟩
  refine List.forall_mem_cons.mpr ⟨am_istore_ok X (by decide) (by decide +kernel), ?_⟩
  refine List.forall_mem_cons.mpr ⟨am_iinc_ok X (by decide) (by decide +kernel), ?_⟩
  refine List.forall_mem_cons.mpr ⟨am_goto_ok (off := -38) X (by decide +kernel) (by decide), ?_⟩
  refine List.forall_mem_cons.mpr ⟨am_iload_ok X (by decide +kernel), ?_⟩
  refine List.forall_mem_cons.mpr ⟨am_ret_ok X hr (by decide +kernel), ?_⟩
  exact fun _ h => absurd h List.not_mem_nil
abbrev b_Mo_go : AT := [(0, am_ald 0 1), (1, am_ic 0 1), (2, am_put am_Y 9 0), (5, am_ald 0 1), (6, am_ild 1 1), (7, am_callV am_Y 9 110 1), (10, am_if 0 22), (13, am_ald 0 1), (14, am_get am_Y 9 5), (17, am_ic (40) 2), (19, am_icmp 1 24), (22, am_ic (-1) 1), (23, am_ret), (24, am_ald 0 1), (25, am_get am_Y 9 4), (28, am_ald 0 1), (29, am_get am_Y 9 5), (32, am_ild 1 1), (33, am_iast am_Y), (34, am_ald 0 1), (35, am_dup), (36, am_get am_Y 9 5), (39, am_ic 1 1), (40, am_iadd), (41, am_put am_Y 9 5), (44, am_ald 0 1), (45, am_get am_Y 9 5), (48, am_ret)]
set_option maxRecDepth 100000 in
set_option maxHeartbeats 4000000 in
theorem T_Mo_go : am_T am_Y am_cl am_Gw am_mi 129 b_Mo_go := by
  intro E A p l e s m args below meth c Rt X hr
  refine List.forall_mem_cons.mpr ⟨am_aload_n_ok (k := 0) X (by decide +kernel), ?_⟩
  refine List.forall_mem_cons.mpr ⟨am_iconst_ok X (by decide +kernel), ?_⟩
  refine List.forall_mem_cons.mpr ⟨am_put_ok (C := R_Mo) (T := F_Mo) (N := 13) (idx := 39) X rfl (by decide) (fun w h => List.mem_cons_of_mem _ (u_Mo w h)) t_Mo_ok n_Mo rfl (by decide +kernel) (List.mem_cons_of_mem _ w_Mo_39) (by decide +kernel), ?_⟩
  refine List.forall_mem_cons.mpr ⟨am_aload_n_ok (k := 0) X (by decide +kernel), ?_⟩
  refine List.forall_mem_cons.mpr ⟨am_iload_n_ok (k := 1) X (by decide +kernel), ?_⟩
  refine List.forall_mem_cons.mpr ⟨am_callV_ok (C := R_Mo) (T := F_Mo) (N := 13) (idx := 110) X rfl (am_GV m_Mo_110 v_Mo_isPoint.1 v_Mo_isPoint.2.1 v_Mo_isPoint.2.2.1 v_Mo_isPoint.2.2.2) ⟨rfl, v_Mo_isPointd⟩ ⟨by decide, by decide⟩ (Nat.zero_le _) (by decide +kernel), ?_⟩
  refine List.forall_mem_cons.mpr ⟨am_if_eq_ok (off := 12) X (by decide +kernel) (by decide), ?_⟩
  refine List.forall_mem_cons.mpr ⟨am_aload_n_ok (k := 0) X (by decide +kernel), ?_⟩
  refine List.forall_mem_cons.mpr ⟨am_get_ok (C := R_Mo) (T := F_Mo) (N := 13) (idx := 52) X rfl (by decide) (fun w h => List.mem_cons_of_mem _ (u_Mo w h)) (List.mem_cons_of_mem _ w_Mo_52) (by decide +kernel), ?_⟩
  refine List.forall_mem_cons.mpr ⟨am_bipush_ok X (by decide +kernel) (by decide), ?_⟩
  refine List.forall_mem_cons.mpr ⟨am_icmp_ne_ok (off := 5) X (by decide +kernel) (by decide), ?_⟩
  refine List.forall_mem_cons.mpr ⟨am_iconst_ok X (by decide +kernel), ?_⟩
  refine List.forall_mem_cons.mpr ⟨am_ret_ok X hr (by decide +kernel), ?_⟩
  refine List.forall_mem_cons.mpr ⟨am_aload_n_ok (k := 0) X (by decide +kernel), ?_⟩
  refine List.forall_mem_cons.mpr ⟨am_get_ok (C := R_Mo) (T := F_Mo) (N := 13) (idx := 16) X rfl (by decide) (fun w h => List.mem_cons_of_mem _ (u_Mo w h)) (List.mem_cons_of_mem _ w_Mo_16) (by decide +kernel), ?_⟩
  refine List.forall_mem_cons.mpr ⟨am_aload_n_ok (k := 0) X (by decide +kernel), ?_⟩
  refine List.forall_mem_cons.mpr ⟨am_get_ok (C := R_Mo) (T := F_Mo) (N := 13) (idx := 52) X rfl (by decide) (fun w h => List.mem_cons_of_mem _ (u_Mo w h)) (List.mem_cons_of_mem _ w_Mo_52) (by decide +kernel), ?_⟩
  refine List.forall_mem_cons.mpr ⟨am_iload_n_ok (k := 1) X (by decide +kernel), ?_⟩
  refine List.forall_mem_cons.mpr ⟨am_iast_ok X am_Y0 (by decide +kernel), ?_⟩
  refine List.forall_mem_cons.mpr ⟨am_aload_n_ok (k := 0) X (by decide +kernel), ?_⟩
  refine List.forall_mem_cons.mpr ⟨am_dup_ok X (by decide +kernel), ?_⟩
  refine List.forall_mem_cons.mpr ⟨am_get_ok (C := R_Mo) (T := F_Mo) (N := 13) (idx := 52) X rfl (by decide) (fun w h => List.mem_cons_of_mem _ (u_Mo w h)) (List.mem_cons_of_mem _ w_Mo_52) (by decide +kernel), ?_⟩
  refine List.forall_mem_cons.mpr ⟨am_iconst_ok X (by decide +kernel), ?_⟩
  refine List.forall_mem_cons.mpr ⟨am_iadd_ok X (by decide +kernel), ?_⟩
  refine List.forall_mem_cons.mpr ⟨am_put_ok (C := R_Mo) (T := F_Mo) (N := 13) (idx := 52) X rfl (by decide) (fun w h => List.mem_cons_of_mem _ (u_Mo w h)) t_Mo_ok n_Mo rfl (by decide +kernel) (List.mem_cons_of_mem _ w_Mo_52) (by decide +kernel), ?_⟩
  refine List.forall_mem_cons.mpr ⟨am_aload_n_ok (k := 0) X (by decide +kernel), ?_⟩
  refine List.forall_mem_cons.mpr ⟨am_get_ok (C := R_Mo) (T := F_Mo) (N := 13) (idx := 52) X rfl (by decide) (fun w h => List.mem_cons_of_mem _ (u_Mo w h)) (List.mem_cons_of_mem _ w_Mo_52) (by decide +kernel), ?_⟩
  refine List.forall_mem_cons.mpr ⟨am_ret_ok X hr (by decide +kernel), ?_⟩
  exact fun _ h => absurd h List.not_mem_nil
