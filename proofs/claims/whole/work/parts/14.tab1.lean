/-! printed: tables of the methods -/
abbrev b_Po_threesOnOneLine : AT := [(0, am_ic 0 1), (1, am_ist 1 1), (2, am_ic 0 1), (3, am_ist 2 1), (4, am_ild 2 1), (5, am_ald 0 1), (6, am_get am_Y 4 2), (9, am_icmp 3 72), (12, am_ild 2 1), (13, am_ic 1 1), (14, am_iadd), (15, am_ist 3 1), (16, am_ild 3 1), (17, am_ald 0 1), (18, am_get am_Y 4 2), (21, am_icmp 3 66), (24, am_ild 3 1), (25, am_ic 1 1), (26, am_iadd), (27, am_ist 4 2), (29, am_ild 4 2), (31, am_ald 0 1), (32, am_get am_Y 4 2), (35, am_icmp 3 60), (38, am_ald 0 1), (39, am_ild 2 1), (40, am_ild 3 1), (41, am_ild 4 2), (43, am_callV am_Y 4 11 3), (46, am_lc 0 1), (47, am_lcmp 1 54), (51, am_inc 1 (1)), (54, am_inc 4 (1)), (57, am_goto 29), (60, am_inc 3 (1)), (63, am_goto 16), (66, am_inc 2 (1)), (69, am_goto 4), (72, am_ild 1 1), (73, am_ret)]
set_option maxRecDepth 100000 in
set_option maxHeartbeats 4000000 in
theorem T_Po_threesOnOneLine : am_T am_Y am_cl am_Gw am_mi 25 b_Po_threesOnOneLine := by
  intro E A p l e s m args below meth c Rt X hr
  refine List.forall_mem_cons.mpr ⟨am_iconst_ok X (by decide +kernel), ?_⟩
  refine List.forall_mem_cons.mpr ⟨am_istore_n_ok (k := 1) X (by decide) (by decide +kernel), ?_⟩
  refine List.forall_mem_cons.mpr ⟨am_iconst_ok X (by decide +kernel), ?_⟩
  refine List.forall_mem_cons.mpr ⟨am_istore_n_ok (k := 2) X (by decide) (by decide +kernel), ?_⟩
  refine List.forall_mem_cons.mpr ⟨am_iload_n_ok (k := 2) X (by decide +kernel), ?_⟩
  refine List.forall_mem_cons.mpr ⟨am_aload_n_ok (k := 0) X (by decide +kernel), ?_⟩
  refine List.forall_mem_cons.mpr ⟨am_get_ok (C := R_Po) (T := F_Po) (N := 4) (idx := 18) X rfl (by decide) (fun w h => List.mem_cons_of_mem _ (u_Po w h)) (List.mem_cons_of_mem _ w_Po_18) (by decide +kernel), ?_⟩
  refine List.forall_mem_cons.mpr ⟨am_icmp_ge_ok (off := 63) X (by decide +kernel) (by decide), ?_⟩
  refine List.forall_mem_cons.mpr ⟨am_iload_n_ok (k := 2) X (by decide +kernel), ?_⟩
  refine List.forall_mem_cons.mpr ⟨am_iconst_ok X (by decide +kernel), ?_⟩
  refine List.forall_mem_cons.mpr ⟨am_iadd_ok X (by decide +kernel), ?_⟩
  refine List.forall_mem_cons.mpr ⟨am_istore_n_ok (k := 3) X (by decide) (by decide +kernel), ?_⟩
  refine List.forall_mem_cons.mpr ⟨am_iload_n_ok (k := 3) X (by decide +kernel), ?_⟩
  refine List.forall_mem_cons.mpr ⟨am_aload_n_ok (k := 0) X (by decide +kernel), ?_⟩
  refine List.forall_mem_cons.mpr ⟨am_get_ok (C := R_Po) (T := F_Po) (N := 4) (idx := 18) X rfl (by decide) (fun w h => List.mem_cons_of_mem _ (u_Po w h)) (List.mem_cons_of_mem _ w_Po_18) (by decide +kernel), ?_⟩
  refine List.forall_mem_cons.mpr ⟨am_icmp_ge_ok (off := 45) X (by decide +kernel) (by decide), ?_⟩
  refine List.forall_mem_cons.mpr ⟨am_iload_n_ok (k := 3) X (by decide +kernel), ?_⟩
  refine List.forall_mem_cons.mpr ⟨am_iconst_ok X (by decide +kernel), ?_⟩
  refine List.forall_mem_cons.mpr ⟨am_iadd_ok X (by decide +kernel), ?_⟩
  refine List.forall_mem_cons.mpr ⟨am_istore_ok X (by decide) (by decide +kernel), ?_⟩
  refine List.forall_mem_cons.mpr ⟨am_iload_ok X (by decide +kernel), ?_⟩
  refine List.forall_mem_cons.mpr ⟨am_aload_n_ok (k := 0) X (by decide +kernel), ?_⟩
  refine List.forall_mem_cons.mpr ⟨am_get_ok (C := R_Po) (T := F_Po) (N := 4) (idx := 18) X rfl (by decide) (fun w h => List.mem_cons_of_mem _ (u_Po w h)) (List.mem_cons_of_mem _ w_Po_18) (by decide +kernel), ?_⟩
  refine List.forall_mem_cons.mpr ⟨am_icmp_ge_ok (off := 25) X (by decide +kernel) (by decide), ?_⟩
  refine List.forall_mem_cons.mpr ⟨am_aload_n_ok (k := 0) X (by decide +kernel), ?_⟩
  refine List.forall_mem_cons.mpr ⟨am_iload_n_ok (k := 2) X (by decide +kernel), ?_⟩
  refine List.forall_mem_cons.mpr ⟨am_iload_n_ok (k := 3) X (by decide +kernel), ?_⟩
  refine List.forall_mem_cons.mpr ⟨am_iload_ok X (by decide +kernel), ?_⟩
  refine List.forall_mem_cons.mpr ⟨am_callV_ok (C := R_Po) (T := F_Po) (N := 4) (idx := 25) X rfl (am_GV m_Po_25 v_Po_crossProduct.1 v_Po_crossProduct.2.1 v_Po_crossProduct.2.2.1 v_Po_crossProduct.2.2.2) ⟨rfl, v_Po_crossProductd⟩ ⟨by decide, by decide⟩ (Nat.zero_le _) (by decide +kernel), ?_⟩
  refine List.forall_mem_cons.mpr ⟨am_lconst_ok (n := 0) X (by decide +kernel), ?_⟩
  refine List.forall_mem_cons.mpr ⟨am_lcmp_ne_ok (off := 6) X (by decide +kernel) (by decide +kernel) (by decide), ?_⟩
  refine List.forall_mem_cons.mpr ⟨am_iinc_ok X (by decide) (by decide +kernel), ?_⟩
  refine List.forall_mem_cons.mpr ⟨am_iinc_ok X (by decide) (by decide +kernel), ?_⟩
  refine List.forall_mem_cons.mpr ⟨am_goto_ok (off := -28) X (by decide +kernel) (by decide), ?_⟩
  refine List.forall_mem_cons.mpr ⟨am_iinc_ok X (by decide) (by decide +kernel), ?_⟩
  refine List.forall_mem_cons.mpr ⟨am_goto_ok (off := -47) X (by decide +kernel) (by decide), ?_⟩
  refine List.forall_mem_cons.mpr ⟨am_iinc_ok X (by decide) (by decide +kernel), ?_⟩
  refine List.forall_mem_cons.mpr ⟨am_goto_ok (off := -65) X (by decide +kernel) (by decide), ?_⟩
  refine List.forall_mem_cons.mpr ⟨am_iload_n_ok (k := 1) X (by decide +kernel), ?_⟩
  refine List.forall_mem_cons.mpr ⟨am_ret_ok X hr (by decide +kernel), ?_⟩
  exact fun _ h => absurd h List.not_mem_nil
abbrev b_De_count : AT := [(0, am_ild 1 1), (1, am_tsw 0 5 102 [40, 48, 63, 78, 86, 94]), (40, am_ald 0 1), (41, am_get am_Y 8 0), (44, am_get am_Y 4 2), (47, am_ret), (48, am_ald 0 1), (49, am_get am_Y 8 1), (52, am_callV am_Y 1 16 0), (55, am_ald 0 1), (56, am_get am_Y 8 1), (59, am_get am_Y 1 3), (62, am_ret), (63, am_ald 0 1), (64, am_get am_Y 8 3), (67, am_callV am_Y 3 23 0), (70, am_ald 0 1), (71, am_get am_Y 8 3), (74, am_get am_Y 3 3), (77, am_ret), (78, am_ald 0 1), (79, am_get am_Y 8 4), (82, am_get am_Y 5 2), (85, am_ret), (86, am_ald 0 1), (87, am_get am_Y 8 0), (90, am_callV am_Y 4 24 0), (93, am_ret), (94, am_ald 0 1), (95, am_get am_Y 8 0), (98, am_callV am_Y 4 25 0), (101, am_ret), (102, am_ic (-1) 1), (103, am_ret)]
set_option maxRecDepth 100000 in
set_option maxHeartbeats 4000000 in
theorem T_De_count : am_T am_Y am_cl am_Gw am_mi 26 b_De_count := by
  intro E A p l e s m args below meth c Rt X hr
  refine List.forall_mem_cons.mpr ⟨am_iload_n_ok (k := 1) X (by decide +kernel), ?_⟩
  refine List.forall_mem_cons.mpr ⟨am_tsw_ok X (dflt := 101) (offs := #[39, 47, 62, 77, 85, 93]) (len := 39) (by decide +kernel) (by decide) (by decide) (by decide), ?_⟩
  refine List.forall_mem_cons.mpr ⟨am_aload_n_ok (k := 0) X (by decide +kernel), ?_⟩
  refine List.forall_mem_cons.mpr ⟨am_get_ok (C := R_De) (T := F_De) (N := 7) (idx := 12) X rfl (by decide) (fun w h => List.mem_cons_of_mem _ (u_De w h)) (List.mem_cons_of_mem _ w_De_12) (by decide +kernel), ?_⟩
  refine List.forall_mem_cons.mpr ⟨am_get_ok (C := R_Po) (T := F_Po) (N := 4) (idx := 68) X rfl (by decide) (fun w h => List.mem_cons_of_mem _ (u_Po w h)) (List.mem_cons_of_mem _ w_De_68) (by decide +kernel), ?_⟩
  refine List.forall_mem_cons.mpr ⟨am_ret_ok X hr (by decide +kernel), ?_⟩
  refine List.forall_mem_cons.mpr ⟨am_aload_n_ok (k := 0) X (by decide +kernel), ?_⟩
  refine List.forall_mem_cons.mpr ⟨am_get_ok (C := R_De) (T := F_De) (N := 7) (idx := 21) X rfl (by decide) (fun w h => List.mem_cons_of_mem _ (u_De w h)) (List.mem_cons_of_mem _ w_De_21) (by decide +kernel), ?_⟩
  refine List.forall_mem_cons.mpr ⟨am_callV_ok (C := R_Hu) (T := F_Hu) (N := 5) (idx := 80) X rfl (am_GV m_De_80 v_Hu_refresh.1 v_Hu_refresh.2.1 v_Hu_refresh.2.2.1 v_Hu_refresh.2.2.2) ⟨rfl, v_Hu_refreshd⟩ ⟨by decide, by decide⟩ (Nat.zero_le _) (by decide +kernel), ?_⟩
  refine List.forall_mem_cons.mpr ⟨am_aload_n_ok (k := 0) X (by decide +kernel), ?_⟩
  refine List.forall_mem_cons.mpr ⟨am_get_ok (C := R_De) (T := F_De) (N := 7) (idx := 21) X rfl (by decide) (fun w h => List.mem_cons_of_mem _ (u_De w h)) (List.mem_cons_of_mem _ w_De_21) (by decide +kernel), ?_⟩
  refine List.forall_mem_cons.mpr ⟨am_get_ok (C := R_Hu) (T := F_Hu) (N := 5) (idx := 83) X rfl (by decide) (fun w h => List.mem_cons_of_mem _ (u_Hu w h)) (List.mem_cons_of_mem _ w_De_83) (by decide +kernel), ?_⟩
  refine List.forall_mem_cons.mpr ⟨am_ret_ok X hr (by decide +kernel), ?_⟩
  refine List.forall_mem_cons.mpr ⟨am_aload_n_ok (k := 0) X (by decide +kernel), ?_⟩
  refine List.forall_mem_cons.mpr ⟨am_get_ok (C := R_De) (T := F_De) (N := 7) (idx := 37) X rfl (by decide) (fun w h => List.mem_cons_of_mem _ (u_De w h)) (List.mem_cons_of_mem _ w_De_37) (by decide +kernel), ?_⟩
  refine List.forall_mem_cons.mpr ⟨am_callV_ok (C := R_La) (T := F_La) (N := 5) (idx := 84) X rfl (am_GV m_De_84 v_La_refresh.1 v_La_refresh.2.1 v_La_refresh.2.2.1 v_La_refresh.2.2.2) ⟨rfl, v_La_refreshd⟩ ⟨by decide, by decide⟩ (Nat.zero_le _) (by decide +kernel), ?_⟩
  refine List.forall_mem_cons.mpr ⟨am_aload_n_ok (k := 0) X (by decide +kernel), ?_⟩
  refine List.forall_mem_cons.mpr ⟨am_get_ok (C := R_De) (T := F_De) (N := 7) (idx := 37) X rfl (by decide) (fun w h => List.mem_cons_of_mem _ (u_De w h)) (List.mem_cons_of_mem _ w_De_37) (by decide +kernel), ?_⟩
  refine List.forall_mem_cons.mpr ⟨am_get_ok (C := R_La) (T := F_La) (N := 5) (idx := 85) X rfl (by decide) (fun w h => List.mem_cons_of_mem _ (u_La w h)) (List.mem_cons_of_mem _ w_De_85) (by decide +kernel), ?_⟩
  refine List.forall_mem_cons.mpr ⟨am_ret_ok X hr (by decide +kernel), ?_⟩
  refine List.forall_mem_cons.mpr ⟨am_aload_n_ok (k := 0) X (by decide +kernel), ?_⟩
  refine List.forall_mem_cons.mpr ⟨am_get_ok (C := R_De) (T := F_De) (N := 7) (idx := 44) X rfl (by decide) (fun w h => List.mem_cons_of_mem _ (u_De w h)) (List.mem_cons_of_mem _ w_De_44) (by decide +kernel), ?_⟩
  refine List.forall_mem_cons.mpr ⟨am_get_ok (C := R_Ro) (T := F_Ro) (N := 4) (idx := 86) X rfl (by decide) (fun w h => List.mem_cons_of_mem _ (u_Ro w h)) (List.mem_cons_of_mem _ w_De_86) (by decide +kernel), ?_⟩
  refine List.forall_mem_cons.mpr ⟨am_ret_ok X hr (by decide +kernel), ?_⟩
  refine List.forall_mem_cons.mpr ⟨am_aload_n_ok (k := 0) X (by decide +kernel), ?_⟩
  refine List.forall_mem_cons.mpr ⟨am_get_ok (C := R_De) (T := F_De) (N := 7) (idx := 12) X rfl (by decide) (fun w h => List.mem_cons_of_mem _ (u_De w h)) (List.mem_cons_of_mem _ w_De_12) (by decide +kernel), ?_⟩
  refine List.forall_mem_cons.mpr ⟨am_callV_ok (C := R_Po) (T := F_Po) (N := 4) (idx := 87) X rfl (am_GV m_De_87 v_Po_pairsAtOnePlace.1 v_Po_pairsAtOnePlace.2.1 v_Po_pairsAtOnePlace.2.2.1 v_Po_pairsAtOnePlace.2.2.2) ⟨rfl, v_Po_pairsAtOnePlaced⟩ ⟨by decide, by decide⟩ (Nat.zero_le _) (by decide +kernel), ?_⟩
  refine List.forall_mem_cons.mpr ⟨am_ret_ok X hr (by decide +kernel), ?_⟩
  refine List.forall_mem_cons.mpr ⟨am_aload_n_ok (k := 0) X (by decide +kernel), ?_⟩
  refine List.forall_mem_cons.mpr ⟨am_get_ok (C := R_De) (T := F_De) (N := 7) (idx := 12) X rfl (by decide) (fun w h => List.mem_cons_of_mem _ (u_De w h)) (List.mem_cons_of_mem _ w_De_12) (by decide +kernel), ?_⟩
  refine List.forall_mem_cons.mpr ⟨am_callV_ok (C := R_Po) (T := F_Po) (N := 4) (idx := 91) X rfl (am_GV m_De_91 v_Po_threesOnOneLine.1 v_Po_threesOnOneLine.2.1 v_Po_threesOnOneLine.2.2.1 v_Po_threesOnOneLine.2.2.2) ⟨rfl, v_Po_threesOnOneLined⟩ ⟨by decide, by decide⟩ (Nat.zero_le _) (by decide +kernel), ?_⟩
  refine List.forall_mem_cons.mpr ⟨am_ret_ok X hr (by decide +kernel), ?_⟩
  refine List.forall_mem_cons.mpr ⟨am_iconst_ok X (by decide +kernel), ?_⟩
  refine List.forall_mem_cons.mpr ⟨am_ret_ok X hr (by decide +kernel), ?_⟩
  exact fun _ h => absurd h List.not_mem_nil
abbrev b_Po_has : AT := [(0, am_ild 1 1), (1, am_if 2 16), (4, am_ild 1 1), (5, am_ald 0 1), (6, am_get am_Y 4 2), (9, am_icmp 3 16), (12, am_ic 1 1), (13, am_goto 17), (16, am_ic 0 1), (17, am_zret)]
set_option maxRecDepth 100000 in
set_option maxHeartbeats 4000000 in
theorem T_Po_has : am_T am_Y am_cl am_Gw am_mi 27 b_Po_has := by
  intro E A p l e s m args below meth c Rt X hr
  refine List.forall_mem_cons.mpr ⟨am_iload_n_ok (k := 1) X (by decide +kernel), ?_⟩
  refine List.forall_mem_cons.mpr ⟨am_if_lt_ok (off := 15) X (by decide +kernel) (by decide), ?_⟩
  refine List.forall_mem_cons.mpr ⟨am_iload_n_ok (k := 1) X (by decide +kernel), ?_⟩
  refine List.forall_mem_cons.mpr ⟨am_aload_n_ok (k := 0) X (by decide +kernel), ?_⟩
  refine List.forall_mem_cons.mpr ⟨am_get_ok (C := R_Po) (T := F_Po) (N := 4) (idx := 18) X rfl (by decide) (fun w h => List.mem_cons_of_mem _ (u_Po w h)) (List.mem_cons_of_mem _ w_Po_18) (by decide +kernel), ?_⟩
  refine List.forall_mem_cons.mpr ⟨am_icmp_ge_ok (off := 7) X (by decide +kernel) (by decide), ?_⟩
  refine List.forall_mem_cons.mpr ⟨am_iconst_ok X (by decide +kernel), ?_⟩
  refine List.forall_mem_cons.mpr ⟨am_goto_ok (off := 4) X (by decide +kernel) (by decide), ?_⟩
  refine List.forall_mem_cons.mpr ⟨am_iconst_ok X (by decide +kernel), ?_⟩
  refine List.forall_mem_cons.mpr ⟨am_zret_ok X hr (by decide +kernel), ?_⟩
  exact fun _ h => absurd h List.not_mem_nil
abbrev b_De_requirePoint : AT := [(0, am_ald 0 1), (1, am_get am_Y 8 0), (4, am_ild 1 1), (5, am_callV am_Y 4 27 1), (8, am_if 1 21), (21, am_vret)]
set_option maxRecDepth 100000 in
set_option maxHeartbeats 4000000 in
theorem T_De_requirePoint : am_T am_Y am_cl am_Gw am_mi 28 b_De_requirePoint := by
  intro E A p l e s m args below meth c Rt X hr
  refine List.forall_mem_cons.mpr ⟨am_aload_n_ok (k := 0) X (by decide +kernel), ?_⟩
  refine List.forall_mem_cons.mpr ⟨am_get_ok (C := R_De) (T := F_De) (N := 7) (idx := 12) X rfl (by decide) (fun w h => List.mem_cons_of_mem _ (u_De w h)) (List.mem_cons_of_mem _ w_De_12) (by decide +kernel), ?_⟩
  refine List.forall_mem_cons.mpr ⟨am_iload_n_ok (k := 1) X (by decide +kernel), ?_⟩
  refine List.forall_mem_cons.mpr ⟨am_callV_ok (C := R_Po) (T := F_Po) (N := 4) (idx := 119) X rfl (am_GV m_De_119 v_Po_has.1 v_Po_has.2.1 v_Po_has.2.2.1 v_Po_has.2.2.2) ⟨rfl, v_Po_hasd⟩ ⟨by decide, by decide⟩ (Nat.zero_le _) (by decide +kernel), ?_⟩
  refine List.forall_mem_cons.mpr ⟨am_if_ne_ok (off := 13) X (by decide +kernel) (by decide), ?_⟩
  refine List.forall_mem_cons.mpr ⟨am_vret_ok X hr (by decide +kernel), ?_⟩
  exact fun _ h => absurd h List.not_mem_nil
abbrev b_De_at : AT := [(0, am_ald 0 1), (1, am_ild 1 1), (2, am_callV am_Y 8 28 1), (5, am_ild 2 1), (6, am_if 0 24), (9, am_ild 2 1), (10, am_ic 1 1), (11, am_icmp 0 24), (24, am_ild 2 1), (25, am_if 1 40), (28, am_ald 0 1), (29, am_get am_Y 8 0), (32, am_get am_Y 4 0), (35, am_ild 1 1), (36, am_iald am_Y), (37, am_goto 49), (40, am_ald 0 1), (41, am_get am_Y 8 0), (44, am_get am_Y 4 1), (47, am_ild 1 1), (48, am_iald am_Y), (49, am_ret)]
set_option maxRecDepth 100000 in
set_option maxHeartbeats 4000000 in
theorem T_De_at : am_T am_Y am_cl am_Gw am_mi 29 b_De_at := by
  intro E A p l e s m args below meth c Rt X hr
  refine List.forall_mem_cons.mpr ⟨am_aload_n_ok (k := 0) X (by decide +kernel), ?_⟩
  refine List.forall_mem_cons.mpr ⟨am_iload_n_ok (k := 1) X (by decide +kernel), ?_⟩
  refine List.forall_mem_cons.mpr ⟨am_callV_ok (C := R_De) (T := F_De) (N := 7) (idx := 94) X rfl (am_GV m_De_94 v_De_requirePoint.1 v_De_requirePoint.2.1 v_De_requirePoint.2.2.1 v_De_requirePoint.2.2.2) ⟨rfl, v_De_requirePointd⟩ ⟨by decide, by decide⟩ (Nat.zero_le _) (by decide +kernel), ?_⟩
  refine List.forall_mem_cons.mpr ⟨am_iload_n_ok (k := 2) X (by decide +kernel), ?_⟩
  refine List.forall_mem_cons.mpr ⟨am_if_eq_ok (off := 18) X (by decide +kernel) (by decide), ?_⟩
  refine List.forall_mem_cons.mpr ⟨am_iload_n_ok (k := 2) X (by decide +kernel), ?_⟩
  refine List.forall_mem_cons.mpr ⟨am_iconst_ok X (by decide +kernel), ?_⟩
  refine List.forall_mem_cons.mpr ⟨am_icmp_eq_ok (off := 13) X (by decide +kernel) (by decide), ?_⟩
  refine List.forall_mem_cons.mpr ⟨am_iload_n_ok (k := 2) X (by decide +kernel), ?_⟩
  refine List.forall_mem_cons.mpr ⟨am_if_ne_ok (off := 15) X (by decide +kernel) (by decide), ?_⟩
  refine List.forall_mem_cons.mpr ⟨am_aload_n_ok (k := 0) X (by decide +kernel), ?_⟩
  refine List.forall_mem_cons.mpr ⟨am_get_ok (C := R_De) (T := F_De) (N := 7) (idx := 12) X rfl (by decide) (fun w h => List.mem_cons_of_mem _ (u_De w h)) (List.mem_cons_of_mem _ w_De_12) (by decide +kernel), ?_⟩
  refine List.forall_mem_cons.mpr ⟨am_get_ok (C := R_Po) (T := F_Po) (N := 4) (idx := 105) X rfl (by decide) (fun w h => List.mem_cons_of_mem _ (u_Po w h)) (List.mem_cons_of_mem _ w_De_105) (by decide +kernel), ?_⟩
  refine List.forall_mem_cons.mpr ⟨am_iload_n_ok (k := 1) X (by decide +kernel), ?_⟩
  refine List.forall_mem_cons.mpr ⟨am_iald_ok X am_Y0 (by decide +kernel), ?_⟩
  refine List.forall_mem_cons.mpr ⟨am_goto_ok (off := 12) X (by decide +kernel) (by decide), ?_⟩
  refine List.forall_mem_cons.mpr ⟨am_aload_n_ok (k := 0) X (by decide +kernel), ?_⟩
  refine List.forall_mem_cons.mpr ⟨am_get_ok (C := R_De) (T := F_De) (N := 7) (idx := 12) X rfl (by decide) (fun w h => List.mem_cons_of_mem _ (u_De w h)) (List.mem_cons_of_mem _ w_De_12) (by decide +kernel), ?_⟩
  refine List.forall_mem_cons.mpr ⟨am_get_ok (C := R_Po) (T := F_Po) (N := 4) (idx := 109) X rfl (by decide) (fun w h => List.mem_cons_of_mem _ (u_Po w h)) (List.mem_cons_of_mem _ w_De_109) (by decide +kernel), ?_⟩
  refine List.forall_mem_cons.mpr ⟨am_iload_n_ok (k := 1) X (by decide +kernel), ?_⟩
  refine List.forall_mem_cons.mpr ⟨am_iald_ok X am_Y0 (by decide +kernel), ?_⟩
  refine List.forall_mem_cons.mpr ⟨am_ret_ok X hr (by decide +kernel), ?_⟩
  exact fun _ h => absurd h List.not_mem_nil
abbrev b_De_corner : AT := [(0, am_ald 0 1), (1, am_get am_Y 8 1), (4, am_callV am_Y 1 16 0), (7, am_ild 1 1), (8, am_if 2 34), (11, am_ild 1 1), (12, am_ald 0 1), (13, am_get am_Y 8 1), (16, am_get am_Y 1 3), (19, am_icmp 3 34), (22, am_ald 0 1), (23, am_get am_Y 8 1), (26, am_get am_Y 1 2), (29, am_ild 1 1), (30, am_iald am_Y), (31, am_goto 35), (34, am_ic (-1) 1), (35, am_ret)]
set_option maxRecDepth 100000 in
set_option maxHeartbeats 4000000 in
theorem T_De_corner : am_T am_Y am_cl am_Gw am_mi 30 b_De_corner := by
  intro E A p l e s m args below meth c Rt X hr
  refine List.forall_mem_cons.mpr ⟨am_aload_n_ok (k := 0) X (by decide +kernel), ?_⟩
  refine List.forall_mem_cons.mpr ⟨am_get_ok (C := R_De) (T := F_De) (N := 7) (idx := 21) X rfl (by decide) (fun w h => List.mem_cons_of_mem _ (u_De w h)) (List.mem_cons_of_mem _ w_De_21) (by decide +kernel), ?_⟩
  refine List.forall_mem_cons.mpr ⟨am_callV_ok (C := R_Hu) (T := F_Hu) (N := 5) (idx := 80) X rfl (am_GV m_De_80 v_Hu_refresh.1 v_Hu_refresh.2.1 v_Hu_refresh.2.2.1 v_Hu_refresh.2.2.2) ⟨rfl, v_Hu_refreshd⟩ ⟨by decide, by decide⟩ (Nat.zero_le _) (by decide +kernel), ?_⟩
  refine List.forall_mem_cons.mpr ⟨am_iload_n_ok (k := 1) X (by decide +kernel), ?_⟩
  refine List.forall_mem_cons.mpr ⟨am_if_lt_ok (off := 26) X (by decide +kernel) (by decide), ?_⟩
  refine List.forall_mem_cons.mpr ⟨am_iload_n_ok (k := 1) X (by decide +kernel), ?_⟩
  refine List.forall_mem_cons.mpr ⟨am_aload_n_ok (k := 0) X (by decide +kernel), ?_⟩
  refine List.forall_mem_cons.mpr ⟨am_get_ok (C := R_De) (T := F_De) (N := 7) (idx := 21) X rfl (by decide) (fun w h => List.mem_cons_of_mem _ (u_De w h)) (List.mem_cons_of_mem _ w_De_21) (by decide +kernel), ?_⟩
  refine List.forall_mem_cons.mpr ⟨am_get_ok (C := R_Hu) (T := F_Hu) (N := 5) (idx := 83) X rfl (by decide) (fun w h => List.mem_cons_of_mem _ (u_Hu w h)) (List.mem_cons_of_mem _ w_De_83) (by decide +kernel), ?_⟩
  refine List.forall_mem_cons.mpr ⟨am_icmp_ge_ok (off := 15) X (by decide +kernel) (by decide), ?_⟩
  refine List.forall_mem_cons.mpr ⟨am_aload_n_ok (k := 0) X (by decide +kernel), ?_⟩
  refine List.forall_mem_cons.mpr ⟨am_get_ok (C := R_De) (T := F_De) (N := 7) (idx := 21) X rfl (by decide) (fun w h => List.mem_cons_of_mem _ (u_De w h)) (List.mem_cons_of_mem _ w_De_21) (by decide +kernel), ?_⟩
  refine List.forall_mem_cons.mpr ⟨am_get_ok (C := R_Hu) (T := F_Hu) (N := 5) (idx := 112) X rfl (by decide) (fun w h => List.mem_cons_of_mem _ (u_Hu w h)) (List.mem_cons_of_mem _ w_De_112) (by decide +kernel), ?_⟩
  refine List.forall_mem_cons.mpr ⟨am_iload_n_ok (k := 1) X (by decide +kernel), ?_⟩
  refine List.forall_mem_cons.mpr ⟨am_iald_ok X am_Y0 (by decide +kernel), ?_⟩
  refine List.forall_mem_cons.mpr ⟨am_goto_ok (off := 4) X (by decide +kernel) (by decide), ?_⟩
  refine List.forall_mem_cons.mpr ⟨am_iconst_ok X (by decide +kernel), ?_⟩
  refine List.forall_mem_cons.mpr ⟨am_ret_ok X hr (by decide +kernel), ?_⟩
  exact fun _ h => absurd h List.not_mem_nil
abbrev b_Hu_twiceArea : AT := [(0, am_lc 0 1), (1, am_lst 1 1), (2, am_ic 2 1), (3, am_ist 3 1), (4, am_ild 3 1), (5, am_ald 0 1), (6, am_get am_Y 1 3), (9, am_icmp 3 48), (12, am_lld 1 1), (13, am_ald 0 1), (14, am_get am_Y 1 0), (17, am_ald 0 1), (18, am_get am_Y 1 2), (21, am_ic 0 1), (22, am_iald am_Y), (23, am_ald 0 1), (24, am_get am_Y 1 2), (27, am_ild 3 1), (28, am_ic 1 1), (29, am_isub), (30, am_iald am_Y), (31, am_ald 0 1), (32, am_get am_Y 1 2), (35, am_ild 3 1), (36, am_iald am_Y), (37, am_callV am_Y 4 11 3), (40, am_ladd), (41, am_lst 1 1), (42, am_inc 3 (1)), (45, am_goto 4), (48, am_lld 1 1), (49, am_lret)]
set_option maxRecDepth 100000 in
set_option maxHeartbeats 4000000 in
theorem T_Hu_twiceArea : am_T am_Y am_cl am_Gw am_mi 31 b_Hu_twiceArea := by
  intro E A p l e s m args below meth c Rt X hr
  refine List.forall_mem_cons.mpr ⟨am_lconst_ok (n := 0) X (by decide +kernel), ?_⟩
  refine List.forall_mem_cons.mpr ⟨am_lstore_n_ok (k := 1) X (by decide) (by decide +kernel), ?_⟩
  refine List.forall_mem_cons.mpr ⟨am_iconst_ok X (by decide +kernel), ?_⟩
  refine List.forall_mem_cons.mpr ⟨am_istore_n_ok (k := 3) X (by decide) (by decide +kernel), ?_⟩
  refine List.forall_mem_cons.mpr ⟨am_iload_n_ok (k := 3) X (by decide +kernel), ?_⟩
  refine List.forall_mem_cons.mpr ⟨am_aload_n_ok (k := 0) X (by decide +kernel), ?_⟩
  refine List.forall_mem_cons.mpr ⟨am_get_ok (C := R_Hu) (T := F_Hu) (N := 5) (idx := 19) X rfl (by decide) (fun w h => List.mem_cons_of_mem _ (u_Hu w h)) (List.mem_cons_of_mem _ w_Hu_19) (by decide +kernel), ?_⟩
  refine List.forall_mem_cons.mpr ⟨am_icmp_ge_ok (off := 39) X (by decide +kernel) (by decide), ?_⟩
  refine List.forall_mem_cons.mpr ⟨am_lload_n_ok (k := 1) X (by decide +kernel), ?_⟩
  refine List.forall_mem_cons.mpr ⟨am_aload_n_ok (k := 0) X (by decide +kernel), ?_⟩
  refine List.forall_mem_cons.mpr ⟨am_get_ok (C := R_Hu) (T := F_Hu) (N := 5) (idx := 26) X rfl (by decide) (fun w h => List.mem_cons_of_mem _ (u_Hu w h)) (List.mem_cons_of_mem _ w_Hu_26) (by decide +kernel), ?_⟩
  refine List.forall_mem_cons.mpr ⟨am_aload_n_ok (k := 0) X (by decide +kernel), ?_⟩
  refine List.forall_mem_cons.mpr ⟨am_get_ok (C := R_Hu) (T := F_Hu) (N := 5) (idx := 15) X rfl (by decide) (fun w h => List.mem_cons_of_mem _ (u_Hu w h)) (List.mem_cons_of_mem _ w_Hu_15) (by decide +kernel), ?_⟩
  refine List.forall_mem_cons.mpr ⟨am_iconst_ok X (by decide +kernel), ?_⟩
  refine List.forall_mem_cons.mpr ⟨am_iald_ok X am_Y0 (by decide +kernel), ?_⟩
  refine List.forall_mem_cons.mpr ⟨am_aload_n_ok (k := 0) X (by decide +kernel), ?_⟩
  refine List.forall_mem_cons.mpr ⟨am_get_ok (C := R_Hu) (T := F_Hu) (N := 5) (idx := 15) X rfl (by decide) (fun w h => List.mem_cons_of_mem _ (u_Hu w h)) (List.mem_cons_of_mem _ w_Hu_15) (by decide +kernel), ?_⟩
  refine List.forall_mem_cons.mpr ⟨am_iload_n_ok (k := 3) X (by decide +kernel), ?_⟩
  refine List.forall_mem_cons.mpr ⟨am_iconst_ok X (by decide +kernel), ?_⟩
  refine List.forall_mem_cons.mpr ⟨am_isub_ok X (by decide +kernel), ?_⟩
  refine List.forall_mem_cons.mpr ⟨am_iald_ok X am_Y0 (by decide +kernel), ?_⟩
  refine List.forall_mem_cons.mpr ⟨am_aload_n_ok (k := 0) X (by decide +kernel), ?_⟩
  refine List.forall_mem_cons.mpr ⟨am_get_ok (C := R_Hu) (T := F_Hu) (N := 5) (idx := 15) X rfl (by decide) (fun w h => List.mem_cons_of_mem _ (u_Hu w h)) (List.mem_cons_of_mem _ w_Hu_15) (by decide +kernel), ?_⟩
  refine List.forall_mem_cons.mpr ⟨am_iload_n_ok (k := 3) X (by decide +kernel), ?_⟩
  refine List.forall_mem_cons.mpr ⟨am_iald_ok X am_Y0 (by decide +kernel), ?_⟩
  refine List.forall_mem_cons.mpr ⟨am_callV_ok (C := R_Po) (T := F_Po) (N := 4) (idx := 69) X rfl (am_GV m_Hu_69 v_Po_crossProduct.1 v_Po_crossProduct.2.1 v_Po_crossProduct.2.2.1 v_Po_crossProduct.2.2.2) ⟨rfl, v_Po_crossProductd⟩ ⟨by decide, by decide⟩ (Nat.zero_le _) (by decide +kernel), ?_⟩
  refine List.forall_mem_cons.mpr ⟨am_ladd_ok X (by decide +kernel), ?_⟩
  refine List.forall_mem_cons.mpr ⟨am_lstore_n_ok (k := 1) X (by decide) (by decide +kernel), ?_⟩
  refine List.forall_mem_cons.mpr ⟨am_iinc_ok X (by decide) (by decide +kernel), ?_⟩
  refine List.forall_mem_cons.mpr ⟨am_goto_ok (off := -41) X (by decide +kernel) (by decide), ?_⟩
  refine List.forall_mem_cons.mpr ⟨am_lload_n_ok (k := 1) X (by decide +kernel), ?_⟩
  refine List.forall_mem_cons.mpr ⟨am_lret_ok X hr (by decide +kernel), ?_⟩
  exact fun _ h => absurd h List.not_mem_nil
abbrev b_De_area : AT := [(0, am_ald 0 1), (1, am_get am_Y 8 1), (4, am_callV am_Y 1 16 0), (7, am_ald 0 1), (8, am_get am_Y 8 1), (11, am_callV am_Y 1 31 0), (14, am_lret)]
set_option maxRecDepth 100000 in
set_option maxHeartbeats 4000000 in
theorem T_De_area : am_T am_Y am_cl am_Gw am_mi 32 b_De_area := by
  intro E A p l e s m args below meth c Rt X hr
  refine List.forall_mem_cons.mpr ⟨am_aload_n_ok (k := 0) X (by decide +kernel), ?_⟩
  refine List.forall_mem_cons.mpr ⟨am_get_ok (C := R_De) (T := F_De) (N := 7) (idx := 21) X rfl (by decide) (fun w h => List.mem_cons_of_mem _ (u_De w h)) (List.mem_cons_of_mem _ w_De_21) (by decide +kernel), ?_⟩
  refine List.forall_mem_cons.mpr ⟨am_callV_ok (C := R_Hu) (T := F_Hu) (N := 5) (idx := 80) X rfl (am_GV m_De_80 v_Hu_refresh.1 v_Hu_refresh.2.1 v_Hu_refresh.2.2.1 v_Hu_refresh.2.2.2) ⟨rfl, v_Hu_refreshd⟩ ⟨by decide, by decide⟩ (Nat.zero_le _) (by decide +kernel), ?_⟩
  refine List.forall_mem_cons.mpr ⟨am_aload_n_ok (k := 0) X (by decide +kernel), ?_⟩
  refine List.forall_mem_cons.mpr ⟨am_get_ok (C := R_De) (T := F_De) (N := 7) (idx := 21) X rfl (by decide) (fun w h => List.mem_cons_of_mem _ (u_De w h)) (List.mem_cons_of_mem _ w_De_21) (by decide +kernel), ?_⟩
  refine List.forall_mem_cons.mpr ⟨am_callV_ok (C := R_Hu) (T := F_Hu) (N := 5) (idx := 115) X rfl (am_GV m_De_115 v_Hu_twiceArea.1 v_Hu_twiceArea.2.1 v_Hu_twiceArea.2.2.1 v_Hu_twiceArea.2.2.2) ⟨rfl, v_Hu_twiceAread⟩ ⟨by decide, by decide⟩ (Nat.zero_le _) (by decide +kernel), ?_⟩
  refine List.forall_mem_cons.mpr ⟨am_lret_ok X hr (by decide +kernel), ?_⟩
  exact fun _ h => absurd h List.not_mem_nil
abbrev b_De_layer : AT := [(0, am_ald 0 1), (1, am_get am_Y 8 0), (4, am_ild 1 1), (5, am_callV am_Y 4 27 1), (8, am_if 1 13), (11, am_ic (-1) 1), (12, am_ret), (13, am_ald 0 1), (14, am_get am_Y 8 3), (17, am_callV am_Y 3 23 0), (20, am_ald 0 1), (21, am_get am_Y 8 3), (24, am_get am_Y 3 2), (27, am_ild 1 1), (28, am_iald am_Y), (29, am_ret)]
set_option maxRecDepth 100000 in
set_option maxHeartbeats 4000000 in
theorem T_De_layer : am_T am_Y am_cl am_Gw am_mi 33 b_De_layer := by
  intro E A p l e s m args below meth c Rt X hr
  refine List.forall_mem_cons.mpr ⟨am_aload_n_ok (k := 0) X (by decide +kernel), ?_⟩
  refine List.forall_mem_cons.mpr ⟨am_get_ok (C := R_De) (T := F_De) (N := 7) (idx := 12) X rfl (by decide) (fun w h => List.mem_cons_of_mem _ (u_De w h)) (List.mem_cons_of_mem _ w_De_12) (by decide +kernel), ?_⟩
  refine List.forall_mem_cons.mpr ⟨am_iload_n_ok (k := 1) X (by decide +kernel), ?_⟩
  refine List.forall_mem_cons.mpr ⟨am_callV_ok (C := R_Po) (T := F_Po) (N := 4) (idx := 119) X rfl (am_GV m_De_119 v_Po_has.1 v_Po_has.2.1 v_Po_has.2.2.1 v_Po_has.2.2.2) ⟨rfl, v_Po_hasd⟩ ⟨by decide, by decide⟩ (Nat.zero_le _) (by decide +kernel), ?_⟩
  refine List.forall_mem_cons.mpr ⟨am_if_ne_ok (off := 5) X (by decide +kernel) (by decide), ?_⟩
  refine List.forall_mem_cons.mpr ⟨am_iconst_ok X (by decide +kernel), ?_⟩
  refine List.forall_mem_cons.mpr ⟨am_ret_ok X hr (by decide +kernel), ?_⟩
  refine List.forall_mem_cons.mpr ⟨am_aload_n_ok (k := 0) X (by decide +kernel), ?_⟩
  refine List.forall_mem_cons.mpr ⟨am_get_ok (C := R_De) (T := F_De) (N := 7) (idx := 37) X rfl (by decide) (fun w h => List.mem_cons_of_mem _ (u_De w h)) (List.mem_cons_of_mem _ w_De_37) (by decide +kernel), ?_⟩
  refine List.forall_mem_cons.mpr ⟨am_callV_ok (C := R_La) (T := F_La) (N := 5) (idx := 84) X rfl (am_GV m_De_84 v_La_refresh.1 v_La_refresh.2.1 v_La_refresh.2.2.1 v_La_refresh.2.2.2) ⟨rfl, v_La_refreshd⟩ ⟨by decide, by decide⟩ (Nat.zero_le _) (by decide +kernel), ?_⟩
  refine List.forall_mem_cons.mpr ⟨am_aload_n_ok (k := 0) X (by decide +kernel), ?_⟩
  refine List.forall_mem_cons.mpr ⟨am_get_ok (C := R_De) (T := F_De) (N := 7) (idx := 37) X rfl (by decide) (fun w h => List.mem_cons_of_mem _ (u_De w h)) (List.mem_cons_of_mem _ w_De_37) (by decide +kernel), ?_⟩
  refine List.forall_mem_cons.mpr ⟨am_get_ok (C := R_La) (T := F_La) (N := 5) (idx := 123) X rfl (by decide) (fun w h => List.mem_cons_of_mem _ (u_La w h)) (List.mem_cons_of_mem _ w_De_123) (by decide +kernel), ?_⟩
  refine List.forall_mem_cons.mpr ⟨am_iload_n_ok (k := 1) X (by decide +kernel), ?_⟩
  refine List.forall_mem_cons.mpr ⟨am_iald_ok X am_Y0 (by decide +kernel), ?_⟩
  refine List.forall_mem_cons.mpr ⟨am_ret_ok X hr (by decide +kernel), ?_⟩
  exact fun _ h => absurd h List.not_mem_nil
abbrev b_De_pair : AT := [(0, am_ald 0 1), (1, am_get am_Y 8 0), (4, am_get am_Y 4 2), (7, am_ic 2 1), (8, am_icmp 2 20), (11, am_ild 1 1), (12, am_if 0 22), (15, am_ild 1 1), (16, am_ic 1 1), (17, am_icmp 0 22), (20, am_ic (-1) 1), (21, am_ret), (22, am_ic 1 1), (23, am_ist 2 1), (24, am_ald 0 1), (25, am_get am_Y 8 0), (28, am_ic 0 1), (29, am_ic 1 1), (30, am_callV am_Y 4 12 2), (33, am_lst 3 1), (34, am_ic 0 1), (35, am_ist 5 2), (37, am_ild 5 2), (39, am_ald 0 1), (40, am_get am_Y 8 0), (43, am_get am_Y 4 2), (46, am_icmp 3 125), (49, am_ild 5 2), (51, am_ic 1 1), (52, am_iadd), (53, am_ist 6 2), (55, am_ild 6 2), (57, am_ald 0 1), (58, am_get am_Y 8 0), (61, am_get am_Y 4 2), (64, am_icmp 3 119), (67, am_ald 0 1), (68, am_get am_Y 8 0), (71, am_ild 5 2), (73, am_ild 6 2), (75, am_callV am_Y 4 12 2), (78, am_lst 7 2), (80, am_ild 1 1), (81, am_if 1 94), (84, am_lld 7 2), (86, am_lld 3 1), (87, am_lcmp 5 113), (91, am_goto 101), (94, am_lld 7 2), (96, am_lld 3 1), (97, am_lcmp 3 113), (101, am_ic (64) 2), (103, am_ild 5 2), (105, am_imul), (106, am_ild 6 2), (108, am_iadd), (109, am_ist 2 1), (110, am_lld 7 2), (112, am_lst 3 1), (113, am_inc 6 (1)), (116, am_goto 55), (119, am_inc 5 (1)), (122, am_goto 37), (125, am_ild 2 1), (126, am_ret)]
set_option maxRecDepth 100000 in
set_option maxHeartbeats 4000000 in
theorem T_De_pair : am_T am_Y am_cl am_Gw am_mi 34 b_De_pair := by
  intro E A p l e s m args below meth c Rt X hr
  refine List.forall_mem_cons.mpr ⟨am_aload_n_ok (k := 0) X (by decide +kernel), ?_⟩
  refine List.forall_mem_cons.mpr ⟨am_get_ok (C := R_De) (T := F_De) (N := 7) (idx := 12) X rfl (by decide) (fun w h => List.mem_cons_of_mem _ (u_De w h)) (List.mem_cons_of_mem _ w_De_12) (by decide +kernel), ?_⟩
  refine List.forall_mem_cons.mpr ⟨am_get_ok (C := R_Po) (T := F_Po) (N := 4) (idx := 68) X rfl (by decide) (fun w h => List.mem_cons_of_mem _ (u_Po w h)) (List.mem_cons_of_mem _ w_De_68) (by decide +kernel), ?_⟩
  refine List.forall_mem_cons.mpr ⟨am_iconst_ok X (by decide +kernel), ?_⟩
  refine List.forall_mem_cons.mpr ⟨am_icmp_lt_ok (off := 12) X (by decide +kernel) (by decide), ?_⟩
  refine List.forall_mem_cons.mpr ⟨am_iload_n_ok (k := 1) X (by decide +kernel), ?_⟩
  refine List.forall_mem_cons.mpr ⟨am_if_eq_ok (off := 10) X (by decide +kernel) (by decide), ?_⟩
  refine List.forall_mem_cons.mpr ⟨am_iload_n_ok (k := 1) X (by decide +kernel), ?_⟩
  refine List.forall_mem_cons.mpr ⟨am_iconst_ok X (by decide +kernel), ?_⟩
  refine List.forall_mem_cons.mpr ⟨am_icmp_eq_ok (off := 5) X (by decide +kernel) (by decide), ?_⟩
  refine List.forall_mem_cons.mpr ⟨am_iconst_ok X (by decide +kernel), ?_⟩
  refine List.forall_mem_cons.mpr ⟨am_ret_ok X hr (by decide +kernel), ?_⟩
  refine List.forall_mem_cons.mpr ⟨am_iconst_ok X (by decide +kernel), ?_⟩
  refine List.forall_mem_cons.mpr ⟨am_istore_n_ok (k := 2) X (by decide) (by decide +kernel), ?_⟩
  refine List.forall_mem_cons.mpr ⟨am_aload_n_ok (k := 0) X (by decide +kernel), ?_⟩
  refine List.forall_mem_cons.mpr ⟨am_get_ok (C := R_De) (T := F_De) (N := 7) (idx := 12) X rfl (by decide) (fun w h => List.mem_cons_of_mem _ (u_De w h)) (List.mem_cons_of_mem _ w_De_12) (by decide +kernel), ?_⟩
  refine List.forall_mem_cons.mpr ⟨am_iconst_ok X (by decide +kernel), ?_⟩
  refine List.forall_mem_cons.mpr ⟨am_iconst_ok X (by decide +kernel), ?_⟩
  refine List.forall_mem_cons.mpr ⟨am_callV_ok (C := R_Po) (T := F_Po) (N := 4) (idx := 126) X rfl (am_GV m_De_126 v_Po_squaredDistance.1 v_Po_squaredDistance.2.1 v_Po_squaredDistance.2.2.1 v_Po_squaredDistance.2.2.2) ⟨rfl, v_Po_squaredDistanced⟩ ⟨by decide, by decide⟩ (Nat.zero_le _) (by decide +kernel), ?_⟩
  refine List.forall_mem_cons.mpr ⟨am_lstore_n_ok (k := 3) X (by decide) (by decide +kernel), ?_⟩
  refine List.forall_mem_cons.mpr ⟨am_iconst_ok X (by decide +kernel), ?_⟩
  refine List.forall_mem_cons.mpr ⟨am_istore_ok X (by decide) (by decide +kernel), ?_⟩
  refine List.forall_mem_cons.mpr ⟨am_iload_ok X (by decide +kernel), ?_⟩
  refine List.forall_mem_cons.mpr ⟨am_aload_n_ok (k := 0) X (by decide +kernel), ?_⟩
  refine List.forall_mem_cons.mpr ⟨am_get_ok (C := R_De) (T := F_De) (N := 7) (idx := 12) X rfl (by decide) (fun w h => List.mem_cons_of_mem _ (u_De w h)) (List.mem_cons_of_mem _ w_De_12) (by decide +kernel), ?_⟩
  refine List.forall_mem_cons.mpr ⟨am_get_ok (C := R_Po) (T := F_Po) (N := 4) (idx := 68) X rfl (by decide) (fun w h => List.mem_cons_of_mem _ (u_Po w h)) (List.mem_cons_of_mem _ w_De_68) (by decide +kernel), ?_⟩
  refine List.forall_mem_cons.mpr ⟨am_icmp_ge_ok (off := 79) X (by decide +kernel) (by decide), ?_⟩
  refine List.forall_mem_cons.mpr ⟨am_iload_ok X (by decide +kernel), ?_⟩
  refine List.forall_mem_cons.mpr ⟨am_iconst_ok X (by decide +kernel), ?_⟩
  refine List.forall_mem_cons.mpr ⟨am_iadd_ok X (by decide +kernel), ?_⟩
  refine List.forall_mem_cons.mpr ⟨am_istore_ok X (by decide) (by decide +kernel), ?_⟩
  refine List.forall_mem_cons.mpr ⟨am_iload_ok X (by decide +kernel), ?_⟩
  refine List.forall_mem_cons.mpr ⟨am_aload_n_ok (k := 0) X (by decide +kernel), ?_⟩
  refine List.forall_mem_cons.mpr ⟨am_get_ok (C := R_De) (T := F_De) (N := 7) (idx := 12) X rfl (by decide) (fun w h => List.mem_cons_of_mem _ (u_De w h)) (List.mem_cons_of_mem _ w_De_12) (by decide +kernel), ?_⟩
  refine List.forall_mem_cons.mpr ⟨am_get_ok (C := R_Po) (T := F_Po) (N := 4) (idx := 68) X rfl (by decide) (fun w h => List.mem_cons_of_mem _ (u_Po w h)) (List.mem_cons_of_mem _ w_De_68) (by decide +kernel), ?_⟩
  refine List.forall_mem_cons.mpr ⟨am_icmp_ge_ok (off := 55) X (by decide +kernel) (by decide), ?_⟩
  refine List.forall_mem_cons.mpr ⟨am_aload_n_ok (k := 0) X (by decide +kernel), ?_⟩
  refine List.forall_mem_cons.mpr ⟨am_get_ok (C := R_De) (T := F_De) (N := 7) (idx := 12) X rfl (by decide) (fun w h => List.mem_cons_of_mem _ (u_De w h)) (List.mem_cons_of_mem _ w_De_12) (by decide +kernel), ?_⟩
  refine List.forall_mem_cons.mpr ⟨am_iload_ok X (by decide +kernel), ?_⟩
  refine List.forall_mem_cons.mpr ⟨am_iload_ok X (by decide +kernel), ?_⟩
  refine List.forall_mem_cons.mpr ⟨am_callV_ok (C := R_Po) (T := F_Po) (N := 4) (idx := 126) X rfl (am_GV m_De_126 v_Po_squaredDistance.1 v_Po_squaredDistance.2.1 v_Po_squaredDistance.2.2.1 v_Po_squaredDistance.2.2.2) ⟨rfl, v_Po_squaredDistanced⟩ ⟨by decide, by decide⟩ (Nat.zero_le _) (by decide +kernel), ?_⟩
  refine List.forall_mem_cons.mpr ⟨am_lstore_ok X (by decide) (by decide +kernel), ?_⟩
  refine List.forall_mem_cons.mpr ⟨am_iload_n_ok (k := 1) X (by decide +kernel), ?_⟩
  refine List.forall_mem_cons.mpr ⟨am_if_ne_ok (off := 13) X (by decide +kernel) (by decide), ?_⟩
  refine List.forall_mem_cons.mpr ⟨am_lload_ok X (by decide +kernel), ?_⟩
  refine List.forall_mem_cons.mpr ⟨am_lload_n_ok (k := 3) X (by decide +kernel), ?_⟩
  refine List.forall_mem_cons.mpr ⟨am_lcmp_le_ok (off := 25) X (by decide +kernel) (by decide +kernel) (by decide), ?_⟩
  refine List.forall_mem_cons.mpr ⟨am_goto_ok (off := 10) X (by decide +kernel) (by decide), ?_⟩
  refine List.forall_mem_cons.mpr ⟨am_lload_ok X (by decide +kernel), ?_⟩
  refine List.forall_mem_cons.mpr ⟨am_lload_n_ok (k := 3) X (by decide +kernel), ?_⟩
  refine List.forall_mem_cons.mpr ⟨am_lcmp_ge_ok (off := 15) X (by decide +kernel) (by decide +kernel) (by decide), ?_⟩
  refine List.forall_mem_cons.mpr ⟨am_bipush_ok X (by decide +kernel) (by decide), ?_⟩
  refine List.forall_mem_cons.mpr ⟨am_iload_ok X (by decide +kernel), ?_⟩
  refine List.forall_mem_cons.mpr ⟨am_imul_ok X (by decide +kernel), ?_⟩
  refine List.forall_mem_cons.mpr ⟨am_iload_ok X (by decide +kernel), ?_⟩
  refine List.forall_mem_cons.mpr ⟨am_iadd_ok X (by decide +kernel), ?_⟩
  refine List.forall_mem_cons.mpr ⟨am_istore_n_ok (k := 2) X (by decide) (by decide +kernel), ?_⟩
  refine List.forall_mem_cons.mpr ⟨am_lload_ok X (by decide +kernel), ?_⟩
  refine List.forall_mem_cons.mpr ⟨am_lstore_n_ok (k := 3) X (by decide) (by decide +kernel), ?_⟩
  refine List.forall_mem_cons.mpr ⟨am_iinc_ok X (by decide) (by decide +kernel), ?_⟩
  refine List.forall_mem_cons.mpr ⟨am_goto_ok (off := -61) X (by decide +kernel) (by decide), ?_⟩
  refine List.forall_mem_cons.mpr ⟨am_iinc_ok X (by decide) (by decide +kernel), ?_⟩
  refine List.forall_mem_cons.mpr ⟨am_goto_ok (off := -85) X (by decide +kernel) (by decide), ?_⟩
  refine List.forall_mem_cons.mpr ⟨am_iload_n_ok (k := 2) X (by decide +kernel), ?_⟩
  refine List.forall_mem_cons.mpr ⟨am_ret_ok X hr (by decide +kernel), ?_⟩
  exact fun _ h => absurd h List.not_mem_nil
abbrev b_De_distance : AT := [(0, am_ald 0 1), (1, am_ild 1 1), (2, am_callV am_Y 8 28 1), (5, am_ald 0 1), (6, am_ild 2 1), (7, am_callV am_Y 8 28 1), (10, am_ald 0 1), (11, am_get am_Y 8 0), (14, am_ild 1 1), (15, am_ild 2 1), (16, am_callV am_Y 4 12 2), (19, am_lret)]
set_option maxRecDepth 100000 in
set_option maxHeartbeats 4000000 in
theorem T_De_distance : am_T am_Y am_cl am_Gw am_mi 35 b_De_distance := by
  intro E A p l e s m args below meth c Rt X hr
  refine List.forall_mem_cons.mpr ⟨am_aload_n_ok (k := 0) X (by decide +kernel), ?_⟩
  refine List.forall_mem_cons.mpr ⟨am_iload_n_ok (k := 1) X (by decide +kernel), ?_⟩
  refine List.forall_mem_cons.mpr ⟨am_callV_ok (C := R_De) (T := F_De) (N := 7) (idx := 94) X rfl (am_GV m_De_94 v_De_requirePoint.1 v_De_requirePoint.2.1 v_De_requirePoint.2.2.1 v_De_requirePoint.2.2.2) ⟨rfl, v_De_requirePointd⟩ ⟨by decide, by decide⟩ (Nat.zero_le _) (by decide +kernel), ?_⟩
  refine List.forall_mem_cons.mpr ⟨am_aload_n_ok (k := 0) X (by decide +kernel), ?_⟩
  refine List.forall_mem_cons.mpr ⟨am_iload_n_ok (k := 2) X (by decide +kernel), ?_⟩
  refine List.forall_mem_cons.mpr ⟨am_callV_ok (C := R_De) (T := F_De) (N := 7) (idx := 94) X rfl (am_GV m_De_94 v_De_requirePoint.1 v_De_requirePoint.2.1 v_De_requirePoint.2.2.1 v_De_requirePoint.2.2.2) ⟨rfl, v_De_requirePointd⟩ ⟨by decide, by decide⟩ (Nat.zero_le _) (by decide +kernel), ?_⟩
  refine List.forall_mem_cons.mpr ⟨am_aload_n_ok (k := 0) X (by decide +kernel), ?_⟩
  refine List.forall_mem_cons.mpr ⟨am_get_ok (C := R_De) (T := F_De) (N := 7) (idx := 12) X rfl (by decide) (fun w h => List.mem_cons_of_mem _ (u_De w h)) (List.mem_cons_of_mem _ w_De_12) (by decide +kernel), ?_⟩
  refine List.forall_mem_cons.mpr ⟨am_iload_n_ok (k := 1) X (by decide +kernel), ?_⟩
  refine List.forall_mem_cons.mpr ⟨am_iload_n_ok (k := 2) X (by decide +kernel), ?_⟩
  refine List.forall_mem_cons.mpr ⟨am_callV_ok (C := R_Po) (T := F_Po) (N := 4) (idx := 126) X rfl (am_GV m_De_126 v_Po_squaredDistance.1 v_Po_squaredDistance.2.1 v_Po_squaredDistance.2.2.1 v_Po_squaredDistance.2.2.2) ⟨rfl, v_Po_squaredDistanced⟩ ⟨by decide, by decide⟩ (Nat.zero_le _) (by decide +kernel), ?_⟩
  refine List.forall_mem_cons.mpr ⟨am_lret_ok X hr (by decide +kernel), ?_⟩
  exact fun _ h => absurd h List.not_mem_nil
abbrev b_Hs_height : AT := [(0, am_lc 0 1), (1, am_lst 2 1), (2, am_ic 0 1), (3, am_ist 4 2), (5, am_ild 4 2), (7, am_ald 0 1), (8, am_get am_Y 2 1), (11, am_get am_Y 1 3), (14, am_icmp 3 62), (17, am_lld 2 1), (18, am_ald 0 1), (19, am_get am_Y 2 0), (22, am_ald 0 1), (23, am_get am_Y 2 1), (26, am_get am_Y 1 2), (29, am_ild 1 1), (30, am_iald am_Y), (31, am_ald 0 1), (32, am_get am_Y 2 1), (35, am_ild 1 1), (36, am_callV am_Y 1 19 1), (39, am_ald 0 1), (40, am_get am_Y 2 1), (43, am_get am_Y 1 2), (46, am_ild 4 2), (48, am_iald am_Y), (49, am_callV am_Y 4 11 3), (52, am_lmax), (55, am_lst 2 1), (56, am_inc 4 (1)), (59, am_goto 5), (62, am_lld 2 1), (63, am_lret)]
set_option maxRecDepth 100000 in
set_option maxHeartbeats 4000000 in
theorem T_Hs_height : am_T am_Y am_cl am_Gw am_mi 36 b_Hs_height := by
  intro E A p l e s m args below meth c Rt X hr
  refine List.forall_mem_cons.mpr ⟨am_lconst_ok (n := 0) X (by decide +kernel), ?_⟩
  refine List.forall_mem_cons.mpr ⟨am_lstore_n_ok (k := 2) X (by decide) (by decide +kernel), ?_⟩
  refine List.forall_mem_cons.mpr ⟨am_iconst_ok X (by decide +kernel), ?_⟩
  refine List.forall_mem_cons.mpr ⟨am_istore_ok X (by decide) (by decide +kernel), ?_⟩
  refine List.forall_mem_cons.mpr ⟨am_iload_ok X (by decide +kernel), ?_⟩
  refine List.forall_mem_cons.mpr ⟨am_aload_n_ok (k := 0) X (by decide +kernel), ?_⟩
  refine List.forall_mem_cons.mpr ⟨am_get_ok (C := R_Hs) (T := F_Hs) (N := 4) (idx := 23) X rfl (by decide) (fun w h => List.mem_cons_of_mem _ (u_Hs w h)) (List.mem_cons_of_mem _ w_Hs_23) (by decide +kernel), ?_⟩
  refine List.forall_mem_cons.mpr ⟨am_get_ok (C := R_Hu) (T := F_Hu) (N := 5) (idx := 27) X rfl (by decide) (fun w h => List.mem_cons_of_mem _ (u_Hu w h)) (List.mem_cons_of_mem _ w_Hs_27) (by decide +kernel), ?_⟩
  refine List.forall_mem_cons.mpr ⟨am_icmp_ge_ok (off := 48) X (by decide +kernel) (by decide), ?_⟩
  refine List.forall_mem_cons.mpr ⟨am_lload_n_ok (k := 2) X (by decide +kernel), ?_⟩
  refine List.forall_mem_cons.mpr ⟨am_aload_n_ok (k := 0) X (by decide +kernel), ?_⟩
  refine List.forall_mem_cons.mpr ⟨am_get_ok (C := R_Hs) (T := F_Hs) (N := 4) (idx := 19) X rfl (by decide) (fun w h => List.mem_cons_of_mem _ (u_Hs w h)) (List.mem_cons_of_mem _ w_Hs_19) (by decide +kernel), ?_⟩
  refine List.forall_mem_cons.mpr ⟨am_aload_n_ok (k := 0) X (by decide +kernel), ?_⟩
  refine List.forall_mem_cons.mpr ⟨am_get_ok (C := R_Hs) (T := F_Hs) (N := 4) (idx := 23) X rfl (by decide) (fun w h => List.mem_cons_of_mem _ (u_Hs w h)) (List.mem_cons_of_mem _ w_Hs_23) (by decide +kernel), ?_⟩
  refine List.forall_mem_cons.mpr ⟨am_get_ok (C := R_Hu) (T := F_Hu) (N := 5) (idx := 33) X rfl (by decide) (fun w h => List.mem_cons_of_mem _ (u_Hu w h)) (List.mem_cons_of_mem _ w_Hs_33) (by decide +kernel), ?_⟩
  refine List.forall_mem_cons.mpr ⟨am_iload_n_ok (k := 1) X (by decide +kernel), ?_⟩
  refine List.forall_mem_cons.mpr ⟨am_iald_ok X am_Y0 (by decide +kernel), ?_⟩
  refine List.forall_mem_cons.mpr ⟨am_aload_n_ok (k := 0) X (by decide +kernel), ?_⟩
  refine List.forall_mem_cons.mpr ⟨am_get_ok (C := R_Hs) (T := F_Hs) (N := 4) (idx := 23) X rfl (by decide) (fun w h => List.mem_cons_of_mem _ (u_Hs w h)) (List.mem_cons_of_mem _ w_Hs_23) (by decide +kernel), ?_⟩
  refine List.forall_mem_cons.mpr ⟨am_iload_n_ok (k := 1) X (by decide +kernel), ?_⟩
  refine List.forall_mem_cons.mpr ⟨am_callV_ok (C := R_Hu) (T := F_Hu) (N := 5) (idx := 37) X rfl (am_GV m_Hs_37 v_Hu_cornerAfter.1 v_Hu_cornerAfter.2.1 v_Hu_cornerAfter.2.2.1 v_Hu_cornerAfter.2.2.2) ⟨rfl, v_Hu_cornerAfterd⟩ ⟨by decide, by decide⟩ (Nat.zero_le _) (by decide +kernel), ?_⟩
  refine List.forall_mem_cons.mpr ⟨am_aload_n_ok (k := 0) X (by decide +kernel), ?_⟩
  refine List.forall_mem_cons.mpr ⟨am_get_ok (C := R_Hs) (T := F_Hs) (N := 4) (idx := 23) X rfl (by decide) (fun w h => List.mem_cons_of_mem _ (u_Hs w h)) (List.mem_cons_of_mem _ w_Hs_23) (by decide +kernel), ?_⟩
  refine List.forall_mem_cons.mpr ⟨am_get_ok (C := R_Hu) (T := F_Hu) (N := 5) (idx := 33) X rfl (by decide) (fun w h => List.mem_cons_of_mem _ (u_Hu w h)) (List.mem_cons_of_mem _ w_Hs_33) (by decide +kernel), ?_⟩
  refine List.forall_mem_cons.mpr ⟨am_iload_ok X (by decide +kernel), ?_⟩
  refine List.forall_mem_cons.mpr ⟨am_iald_ok X am_Y0 (by decide +kernel), ?_⟩
  refine List.forall_mem_cons.mpr ⟨am_callV_ok (C := R_Po) (T := F_Po) (N := 4) (idx := 41) X rfl (am_GV m_Hs_41 v_Po_crossProduct.1 v_Po_crossProduct.2.1 v_Po_crossProduct.2.2.1 v_Po_crossProduct.2.2.2) ⟨rfl, v_Po_crossProductd⟩ ⟨by decide, by decide⟩ (Nat.zero_le _) (by decide +kernel), ?_⟩
  refine List.forall_mem_cons.mpr ⟨am_lmax_ok (idx := 47) X (List.mem_cons_of_mem _ (am_Gin 454 (by decide +kernel) (by decide +kernel))) (List.mem_cons_of_mem _ (am_Gin 455 (by decide +kernel) (by decide +kernel))) (List.mem_cons_of_mem _ (am_Gin 66 (by decide +kernel) (by decide +kernel))) (List.mem_cons_of_mem _ (am_Gin 456 (by decide +kernel) (by decide +kernel))) (by decide) (by decide) (by decide +kernel), ?_⟩
  refine List.forall_mem_cons.mpr ⟨am_lstore_n_ok (k := 2) X (by decide) (by decide +kernel), ?_⟩
  refine List.forall_mem_cons.mpr ⟨am_iinc_ok X (by decide) (by decide +kernel), ?_⟩
  refine List.forall_mem_cons.mpr ⟨am_goto_ok (off := -54) X (by decide +kernel) (by decide), ?_⟩
  refine List.forall_mem_cons.mpr ⟨am_lload_n_ok (k := 2) X (by decide +kernel), ?_⟩
  refine List.forall_mem_cons.mpr ⟨am_lret_ok X hr (by decide +kernel), ?_⟩
  exact fun _ h => absurd h List.not_mem_nil
abbrev b_Hs_span : AT := [(0, am_lc 0 1), (1, am_lst 2 1), (2, am_lc 0 1), (3, am_lst 4 2), (5, am_ic 0 1), (6, am_ist 6 2), (8, am_ild 6 2), (10, am_ald 0 1), (11, am_get am_Y 2 1), (14, am_get am_Y 1 3), (17, am_icmp 3 78), (20, am_ald 0 1), (21, am_get am_Y 2 0), (24, am_ald 0 1), (25, am_get am_Y 2 1), (28, am_get am_Y 1 2), (31, am_ild 1 1), (32, am_iald am_Y), (33, am_ald 0 1), (34, am_get am_Y 2 1), (37, am_ild 1 1), (38, am_callV am_Y 1 19 1), (41, am_ald 0 1), (42, am_get am_Y 2 1), (45, am_get am_Y 1 2), (48, am_ild 6 2), (50, am_iald am_Y), (51, am_callV am_Y 4 17 3), (54, am_lst 7 2), (56, am_lld 2 1), (57, am_lld 7 2), (59, am_lmin), (62, am_lst 2 1), (63, am_lld 4 2), (65, am_lld 7 2), (67, am_lmax), (70, am_lst 4 2), (72, am_inc 6 (1)), (75, am_goto 8), (78, am_lld 4 2), (80, am_lld 2 1), (81, am_lsub), (82, am_lret)]
set_option maxRecDepth 100000 in
set_option maxHeartbeats 4000000 in
theorem T_Hs_span : am_T am_Y am_cl am_Gw am_mi 37 b_Hs_span := by
  intro E A p l e s m args below meth c Rt X hr
  refine List.forall_mem_cons.mpr ⟨am_lconst_ok (n := 0) X (by decide +kernel), ?_⟩
  refine List.forall_mem_cons.mpr ⟨am_lstore_n_ok (k := 2) X (by decide) (by decide +kernel), ?_⟩
  refine List.forall_mem_cons.mpr ⟨am_lconst_ok (n := 0) X (by decide +kernel), ?_⟩
  refine List.forall_mem_cons.mpr ⟨am_lstore_ok X (by decide) (by decide +kernel), ?_⟩
  refine List.forall_mem_cons.mpr ⟨am_iconst_ok X (by decide +kernel), ?_⟩
  refine List.forall_mem_cons.mpr ⟨am_istore_ok X (by decide) (by decide +kernel), ?_⟩
  refine List.forall_mem_cons.mpr ⟨am_iload_ok X (by decide +kernel), ?_⟩
  refine List.forall_mem_cons.mpr ⟨am_aload_n_ok (k := 0) X (by decide +kernel), ?_⟩
  refine List.forall_mem_cons.mpr ⟨am_get_ok (C := R_Hs) (T := F_Hs) (N := 4) (idx := 23) X rfl (by decide) (fun w h => List.mem_cons_of_mem _ (u_Hs w h)) (List.mem_cons_of_mem _ w_Hs_23) (by decide +kernel), ?_⟩
  refine List.forall_mem_cons.mpr ⟨am_get_ok (C := R_Hu) (T := F_Hu) (N := 5) (idx := 27) X rfl (by decide) (fun w h => List.mem_cons_of_mem _ (u_Hu w h)) (List.mem_cons_of_mem _ w_Hs_27) (by decide +kernel), ?_⟩
  refine List.forall_mem_cons.mpr ⟨am_icmp_ge_ok (off := 61) X (by decide +kernel) (by decide), ?_⟩
  refine List.forall_mem_cons.mpr ⟨am_aload_n_ok (k := 0) X (by decide +kernel), ?_⟩
  refine List.forall_mem_cons.mpr ⟨am_get_ok (C := R_Hs) (T := F_Hs) (N := 4) (idx := 19) X rfl (by decide) (fun w h => List.mem_cons_of_mem _ (u_Hs w h)) (List.mem_cons_of_mem _ w_Hs_19) (by decide +kernel), ?_⟩
  refine List.forall_mem_cons.mpr ⟨am_aload_n_ok (k := 0) X (by decide +kernel), ?_⟩
  refine List.forall_mem_cons.mpr ⟨am_get_ok (C := R_Hs) (T := F_Hs) (N := 4) (idx := 23) X rfl (by decide) (fun w h => List.mem_cons_of_mem _ (u_Hs w h)) (List.mem_cons_of_mem _ w_Hs_23) (by decide +kernel), ?_⟩
  refine List.forall_mem_cons.mpr ⟨am_get_ok (C := R_Hu) (T := F_Hu) (N := 5) (idx := 33) X rfl (by decide) (fun w h => List.mem_cons_of_mem _ (u_Hu w h)) (List.mem_cons_of_mem _ w_Hs_33) (by decide +kernel), ?_⟩
  refine List.forall_mem_cons.mpr ⟨am_iload_n_ok (k := 1) X (by decide +kernel), ?_⟩
  refine List.forall_mem_cons.mpr ⟨am_iald_ok X am_Y0 (by decide +kernel), ?_⟩
  refine List.forall_mem_cons.mpr ⟨am_aload_n_ok (k := 0) X (by decide +kernel), ?_⟩
  refine List.forall_mem_cons.mpr ⟨am_get_ok (C := R_Hs) (T := F_Hs) (N := 4) (idx := 23) X rfl (by decide) (fun w h => List.mem_cons_of_mem _ (u_Hs w h)) (List.mem_cons_of_mem _ w_Hs_23) (by decide +kernel), ?_⟩
  refine List.forall_mem_cons.mpr ⟨am_iload_n_ok (k := 1) X (by decide +kernel), ?_⟩
  refine List.forall_mem_cons.mpr ⟨am_callV_ok (C := R_Hu) (T := F_Hu) (N := 5) (idx := 37) X rfl (am_GV m_Hs_37 v_Hu_cornerAfter.1 v_Hu_cornerAfter.2.1 v_Hu_cornerAfter.2.2.1 v_Hu_cornerAfter.2.2.2) ⟨rfl, v_Hu_cornerAfterd⟩ ⟨by decide, by decide⟩ (Nat.zero_le _) (by decide +kernel), ?_⟩
  refine List.forall_mem_cons.mpr ⟨am_aload_n_ok (k := 0) X (by decide +kernel), ?_⟩
  refine List.forall_mem_cons.mpr ⟨am_get_ok (C := R_Hs) (T := F_Hs) (N := 4) (idx := 23) X rfl (by decide) (fun w h => List.mem_cons_of_mem _ (u_Hs w h)) (List.mem_cons_of_mem _ w_Hs_23) (by decide +kernel), ?_⟩
  refine List.forall_mem_cons.mpr ⟨am_get_ok (C := R_Hu) (T := F_Hu) (N := 5) (idx := 33) X rfl (by decide) (fun w h => List.mem_cons_of_mem _ (u_Hu w h)) (List.mem_cons_of_mem _ w_Hs_33) (by decide +kernel), ?_⟩
  refine List.forall_mem_cons.mpr ⟨am_iload_ok X (by decide +kernel), ?_⟩
  refine List.forall_mem_cons.mpr ⟨am_iald_ok X am_Y0 (by decide +kernel), ?_⟩
  refine List.forall_mem_cons.mpr ⟨am_callV_ok (C := R_Po) (T := F_Po) (N := 4) (idx := 57) X rfl (am_GV m_Hs_57 v_Po_dotProduct.1 v_Po_dotProduct.2.1 v_Po_dotProduct.2.2.1 v_Po_dotProduct.2.2.2) ⟨rfl, v_Po_dotProductd⟩ ⟨by decide, by decide⟩ (Nat.zero_le _) (by decide +kernel), ?_⟩
  refine List.forall_mem_cons.mpr ⟨am_lstore_ok X (by decide) (by decide +kernel), ?_⟩
  refine List.forall_mem_cons.mpr ⟨am_lload_n_ok (k := 2) X (by decide +kernel), ?_⟩
  refine List.forall_mem_cons.mpr ⟨am_lload_ok X (by decide +kernel), ?_⟩
  refine List.forall_mem_cons.mpr ⟨am_lmin_ok (idx := 60) X (List.mem_cons_of_mem _ (am_Gin 466 (by decide +kernel) (by decide +kernel))) (List.mem_cons_of_mem _ (am_Gin 467 (by decide +kernel) (by decide +kernel))) (List.mem_cons_of_mem _ (am_Gin 66 (by decide +kernel) (by decide +kernel))) (List.mem_cons_of_mem _ (am_Gin 468 (by decide +kernel) (by decide +kernel))) (by decide) (by decide) (by decide +kernel), ?_⟩
  refine List.forall_mem_cons.mpr ⟨am_lstore_n_ok (k := 2) X (by decide) (by decide +kernel), ?_⟩
  refine List.forall_mem_cons.mpr ⟨am_lload_ok X (by decide +kernel), ?_⟩
  refine List.forall_mem_cons.mpr ⟨am_lload_ok X (by decide +kernel), ?_⟩
  refine List.forall_mem_cons.mpr ⟨am_lmax_ok (idx := 47) X (List.mem_cons_of_mem _ (am_Gin 454 (by decide +kernel) (by decide +kernel))) (List.mem_cons_of_mem _ (am_Gin 455 (by decide +kernel) (by decide +kernel))) (List.mem_cons_of_mem _ (am_Gin 66 (by decide +kernel) (by decide +kernel))) (List.mem_cons_of_mem _ (am_Gin 456 (by decide +kernel) (by decide +kernel))) (by decide) (by decide) (by decide +kernel), ?_⟩
  refine List.forall_mem_cons.mpr ⟨am_lstore_ok X (by decide) (by decide +kernel), ?_⟩
  refine List.forall_mem_cons.mpr ⟨am_iinc_ok X (by decide) (by decide +kernel), ?_⟩
  refine List.forall_mem_cons.mpr ⟨am_goto_ok (off := -67) X (by decide +kernel) (by decide), ?_⟩
  refine List.forall_mem_cons.mpr ⟨am_lload_ok X (by decide +kernel), ?_⟩
  refine List.forall_mem_cons.mpr ⟨am_lload_n_ok (k := 2) X (by decide +kernel), ?_⟩
  refine List.forall_mem_cons.mpr ⟨am_lsub_ok X (by decide +kernel), ?_⟩
  refine List.forall_mem_cons.mpr ⟨am_lret_ok X hr (by decide +kernel), ?_⟩
  exact fun _ h => absurd h List.not_mem_nil
abbrev b_Hs_width : AT := [(0, am_ild 2 1), (1, am_if 1 12), (4, am_ald 0 1), (5, am_ild 1 1), (6, am_callV am_Y 2 36 1), (9, am_goto 17), (12, am_ald 0 1), (13, am_ild 1 1), (14, am_callV am_Y 2 37 1), (17, am_lret)]
set_option maxRecDepth 100000 in
set_option maxHeartbeats 4000000 in
theorem T_Hs_width : am_T am_Y am_cl am_Gw am_mi 38 b_Hs_width := by
  intro E A p l e s m args below meth c Rt X hr
  refine List.forall_mem_cons.mpr ⟨am_iload_n_ok (k := 2) X (by decide +kernel), ?_⟩
  refine List.forall_mem_cons.mpr ⟨am_if_ne_ok (off := 11) X (by decide +kernel) (by decide), ?_⟩
  refine List.forall_mem_cons.mpr ⟨am_aload_n_ok (k := 0) X (by decide +kernel), ?_⟩
  refine List.forall_mem_cons.mpr ⟨am_iload_n_ok (k := 1) X (by decide +kernel), ?_⟩
  refine List.forall_mem_cons.mpr ⟨am_callV_ok (C := R_Hs) (T := F_Hs) (N := 4) (idx := 67) X rfl (am_GV m_Hs_67 v_Hs_height.1 v_Hs_height.2.1 v_Hs_height.2.2.1 v_Hs_height.2.2.2) ⟨rfl, v_Hs_heightd⟩ ⟨by decide, by decide⟩ (Nat.zero_le _) (by decide +kernel), ?_⟩
  refine List.forall_mem_cons.mpr ⟨am_goto_ok (off := 8) X (by decide +kernel) (by decide), ?_⟩
  refine List.forall_mem_cons.mpr ⟨am_aload_n_ok (k := 0) X (by decide +kernel), ?_⟩
  refine List.forall_mem_cons.mpr ⟨am_iload_n_ok (k := 1) X (by decide +kernel), ?_⟩
  refine List.forall_mem_cons.mpr ⟨am_callV_ok (C := R_Hs) (T := F_Hs) (N := 4) (idx := 85) X rfl (am_GV m_Hs_85 v_Hs_span.1 v_Hs_span.2.1 v_Hs_span.2.2.1 v_Hs_span.2.2.2) ⟨rfl, v_Hs_spand⟩ ⟨by decide, by decide⟩ (Nat.zero_le _) (by decide +kernel), ?_⟩
  refine List.forall_mem_cons.mpr ⟨am_lret_ok X hr (by decide +kernel), ?_⟩
  exact fun _ h => absurd h List.not_mem_nil
abbrev b_Hs_length : AT := [(0, am_ald 0 1), (1, am_get am_Y 2 0), (4, am_ald 0 1), (5, am_get am_Y 2 1), (8, am_get am_Y 1 2), (11, am_ild 1 1), (12, am_iald am_Y), (13, am_ald 0 1), (14, am_get am_Y 2 1), (17, am_ild 1 1), (18, am_callV am_Y 1 19 1), (21, am_callV am_Y 4 12 2), (24, am_lret)]
set_option maxRecDepth 100000 in
set_option maxHeartbeats 4000000 in
theorem T_Hs_length : am_T am_Y am_cl am_Gw am_mi 39 b_Hs_length := by
  intro E A p l e s m args below meth c Rt X hr
  refine List.forall_mem_cons.mpr ⟨am_aload_n_ok (k := 0) X (by decide +kernel), ?_⟩
  refine List.forall_mem_cons.mpr ⟨am_get_ok (C := R_Hs) (T := F_Hs) (N := 4) (idx := 19) X rfl (by decide) (fun w h => List.mem_cons_of_mem _ (u_Hs w h)) (List.mem_cons_of_mem _ w_Hs_19) (by decide +kernel), ?_⟩
  refine List.forall_mem_cons.mpr ⟨am_aload_n_ok (k := 0) X (by decide +kernel), ?_⟩
  refine List.forall_mem_cons.mpr ⟨am_get_ok (C := R_Hs) (T := F_Hs) (N := 4) (idx := 23) X rfl (by decide) (fun w h => List.mem_cons_of_mem _ (u_Hs w h)) (List.mem_cons_of_mem _ w_Hs_23) (by decide +kernel), ?_⟩
  refine List.forall_mem_cons.mpr ⟨am_get_ok (C := R_Hu) (T := F_Hu) (N := 5) (idx := 33) X rfl (by decide) (fun w h => List.mem_cons_of_mem _ (u_Hu w h)) (List.mem_cons_of_mem _ w_Hs_33) (by decide +kernel), ?_⟩
  refine List.forall_mem_cons.mpr ⟨am_iload_n_ok (k := 1) X (by decide +kernel), ?_⟩
  refine List.forall_mem_cons.mpr ⟨am_iald_ok X am_Y0 (by decide +kernel), ?_⟩
  refine List.forall_mem_cons.mpr ⟨am_aload_n_ok (k := 0) X (by decide +kernel), ?_⟩
  refine List.forall_mem_cons.mpr ⟨am_get_ok (C := R_Hs) (T := F_Hs) (N := 4) (idx := 23) X rfl (by decide) (fun w h => List.mem_cons_of_mem _ (u_Hs w h)) (List.mem_cons_of_mem _ w_Hs_23) (by decide +kernel), ?_⟩
  refine List.forall_mem_cons.mpr ⟨am_iload_n_ok (k := 1) X (by decide +kernel), ?_⟩
  refine List.forall_mem_cons.mpr ⟨am_callV_ok (C := R_Hu) (T := F_Hu) (N := 5) (idx := 37) X rfl (am_GV m_Hs_37 v_Hu_cornerAfter.1 v_Hu_cornerAfter.2.1 v_Hu_cornerAfter.2.2.1 v_Hu_cornerAfter.2.2.2) ⟨rfl, v_Hu_cornerAfterd⟩ ⟨by decide, by decide⟩ (Nat.zero_le _) (by decide +kernel), ?_⟩
  refine List.forall_mem_cons.mpr ⟨am_callV_ok (C := R_Po) (T := F_Po) (N := 4) (idx := 53) X rfl (am_GV m_Hs_53 v_Po_squaredDistance.1 v_Po_squaredDistance.2.1 v_Po_squaredDistance.2.2.1 v_Po_squaredDistance.2.2.2) ⟨rfl, v_Po_squaredDistanced⟩ ⟨by decide, by decide⟩ (Nat.zero_le _) (by decide +kernel), ?_⟩
  refine List.forall_mem_cons.mpr ⟨am_lret_ok X hr (by decide +kernel), ?_⟩
  exact fun _ h => absurd h List.not_mem_nil
abbrev b_Wi_multiplyBy : AT := [(0, am_lc 0 1), (1, am_lst 3 1), (2, am_ic 0 1), (3, am_ist 5 2), (5, am_ild 5 2), (7, am_ic 5 1), (8, am_icmp 3 49), (11, am_ald 0 1), (12, am_get am_Y 7 0), (15, am_ild 5 2), (17, am_lald am_Y), (18, am_lld 1 1), (19, am_lmul), (20, am_lld 3 1), (21, am_ladd), (22, am_lst 6 2), (24, am_ald 0 1), (25, am_get am_Y 7 0), (28, am_ild 5 2), (30, am_lld 6 2), (32, am_lc (16777215) 3), (35, am_land), (36, am_last am_Y), (37, am_lld 6 2), (39, am_ic (24) 2), (41, am_lushr), (42, am_lst 3 1), (43, am_inc 5 (1)), (46, am_goto 5), (49, am_vret)]
set_option maxRecDepth 100000 in
set_option maxHeartbeats 4000000 in
theorem T_Wi_multiplyBy : am_T am_Y am_cl am_Gw am_mi 40 b_Wi_multiplyBy := by
  intro E A p l e s m args below meth c Rt X hr
  refine List.forall_mem_cons.mpr ⟨am_lconst_ok (n := 0) X (by decide +kernel), ?_⟩
  refine List.forall_mem_cons.mpr ⟨am_lstore_n_ok (k := 3) X (by decide) (by decide +kernel), ?_⟩
  refine List.forall_mem_cons.mpr ⟨am_iconst_ok X (by decide +kernel), ?_⟩
  refine List.forall_mem_cons.mpr ⟨am_istore_ok X (by decide) (by decide +kernel), ?_⟩
  refine List.forall_mem_cons.mpr ⟨am_iload_ok X (by decide +kernel), ?_⟩
  refine List.forall_mem_cons.mpr ⟨am_iconst_ok X (by decide +kernel), ?_⟩
  refine List.forall_mem_cons.mpr ⟨am_icmp_ge_ok (off := 41) X (by decide +kernel) (by decide), ?_⟩
  refine List.forall_mem_cons.mpr ⟨am_aload_n_ok (k := 0) X (by decide +kernel), ?_⟩
  refine List.forall_mem_cons.mpr ⟨am_get_ok (C := R_Wi) (T := F_Wi) (N := 1) (idx := 9) X rfl (by decide) (fun w h => List.mem_cons_of_mem _ (u_Wi w h)) (List.mem_cons_of_mem _ w_Wi_9) (by decide +kernel), ?_⟩
  refine List.forall_mem_cons.mpr ⟨am_iload_ok X (by decide +kernel), ?_⟩
  refine List.forall_mem_cons.mpr ⟨am_lald_ok X am_Y0 (by decide +kernel), ?_⟩
  refine List.forall_mem_cons.mpr ⟨am_lload_n_ok (k := 1) X (by decide +kernel), ?_⟩
  refine List.forall_mem_cons.mpr ⟨am_lmul_ok X (by decide +kernel), ?_⟩
  refine List.forall_mem_cons.mpr ⟨am_lload_n_ok (k := 3) X (by decide +kernel), ?_⟩
  refine List.forall_mem_cons.mpr ⟨am_ladd_ok X (by decide +kernel), ?_⟩
  refine List.forall_mem_cons.mpr ⟨am_lstore_ok X (by decide) (by decide +kernel), ?_⟩
  refine List.forall_mem_cons.mpr ⟨am_aload_n_ok (k := 0) X (by decide +kernel), ?_⟩
  refine List.forall_mem_cons.mpr ⟨am_get_ok (C := R_Wi) (T := F_Wi) (N := 1) (idx := 9) X rfl (by decide) (fun w h => List.mem_cons_of_mem _ (u_Wi w h)) (List.mem_cons_of_mem _ w_Wi_9) (by decide +kernel), ?_⟩
  refine List.forall_mem_cons.mpr ⟨am_iload_ok X (by decide +kernel), ?_⟩
  refine List.forall_mem_cons.mpr ⟨am_lload_ok X (by decide +kernel), ?_⟩
  refine List.forall_mem_cons.mpr ⟨am_ldc2_ok (i := 17) X (by decide +kernel) (List.mem_cons_of_mem _ (am_Gin 482 (by decide +kernel) (by decide +kernel))), ?_⟩
  refine List.forall_mem_cons.mpr ⟨am_land_ok X (by decide +kernel), ?_⟩
  refine List.forall_mem_cons.mpr ⟨am_last_ok X am_Y0 (by decide +kernel), ?_⟩
  refine List.forall_mem_cons.mpr ⟨am_lload_ok X (by decide +kernel), ?_⟩
  refine List.forall_mem_cons.mpr ⟨am_bipush_ok X (by decide +kernel) (by decide), ?_⟩
  refine List.forall_mem_cons.mpr ⟨am_lushr_ok X (by decide +kernel), ?_⟩
  refine List.forall_mem_cons.mpr ⟨am_lstore_n_ok (k := 3) X (by decide) (by decide +kernel), ?_⟩
  refine List.forall_mem_cons.mpr ⟨am_iinc_ok X (by decide) (by decide +kernel), ?_⟩
  refine List.forall_mem_cons.mpr ⟨am_goto_ok (off := -41) X (by decide +kernel) (by decide), ?_⟩
  refine List.forall_mem_cons.mpr ⟨am_vret_ok X hr (by decide +kernel), ?_⟩
  exact fun _ h => absurd h List.not_mem_nil
abbrev b_Wi_setTo : AT := [(0, am_ic 0 1), (1, am_ist 7 2), (3, am_ild 7 2), (5, am_ic 5 1), (6, am_icmp 3 23), (9, am_ald 0 1), (10, am_get am_Y 7 0), (13, am_ild 7 2), (15, am_lc 0 1), (16, am_last am_Y), (17, am_inc 7 (1)), (20, am_goto 3), (23, am_ald 0 1), (24, am_get am_Y 7 0), (27, am_ic 0 1), (28, am_lc 1 1), (29, am_last am_Y), (30, am_ald 0 1), (31, am_lld 1 1), (32, am_callV am_Y 7 40 1), (35, am_ald 0 1), (36, am_lld 3 1), (37, am_callV am_Y 7 40 1), (40, am_ald 0 1), (41, am_lld 5 2), (43, am_callV am_Y 7 40 1), (46, am_vret)]
set_option maxRecDepth 100000 in
set_option maxHeartbeats 4000000 in
theorem T_Wi_setTo : am_T am_Y am_cl am_Gw am_mi 41 b_Wi_setTo := by
  intro E A p l e s m args below meth c Rt X hr
  refine List.forall_mem_cons.mpr ⟨am_iconst_ok X (by decide +kernel), ?_⟩
  refine List.forall_mem_cons.mpr ⟨am_istore_ok X (by decide) (by decide +kernel), ?_⟩
  refine List.forall_mem_cons.mpr ⟨am_iload_ok X (by decide +kernel), ?_⟩
  refine List.forall_mem_cons.mpr ⟨am_iconst_ok X (by decide +kernel), ?_⟩
  refine List.forall_mem_cons.mpr ⟨am_icmp_ge_ok (off := 17) X (by decide +kernel) (by decide), ?_⟩
  refine List.forall_mem_cons.mpr ⟨am_aload_n_ok (k := 0) X (by decide +kernel), ?_⟩
  refine List.forall_mem_cons.mpr ⟨am_get_ok (C := R_Wi) (T := F_Wi) (N := 1) (idx := 9) X rfl (by decide) (fun w h => List.mem_cons_of_mem _ (u_Wi w h)) (List.mem_cons_of_mem _ w_Wi_9) (by decide +kernel), ?_⟩
  refine List.forall_mem_cons.mpr ⟨am_iload_ok X (by decide +kernel), ?_⟩
  refine List.forall_mem_cons.mpr ⟨am_lconst_ok (n := 0) X (by decide +kernel), ?_⟩
  refine List.forall_mem_cons.mpr ⟨am_last_ok X am_Y0 (by decide +kernel), ?_⟩
  refine List.forall_mem_cons.mpr ⟨am_iinc_ok X (by decide) (by decide +kernel), ?_⟩
  refine List.forall_mem_cons.mpr ⟨am_goto_ok (off := -17) X (by decide +kernel) (by decide), ?_⟩
  refine List.forall_mem_cons.mpr ⟨am_aload_n_ok (k := 0) X (by decide +kernel), ?_⟩
  refine List.forall_mem_cons.mpr ⟨am_get_ok (C := R_Wi) (T := F_Wi) (N := 1) (idx := 9) X rfl (by decide) (fun w h => List.mem_cons_of_mem _ (u_Wi w h)) (List.mem_cons_of_mem _ w_Wi_9) (by decide +kernel), ?_⟩
  refine List.forall_mem_cons.mpr ⟨am_iconst_ok X (by decide +kernel), ?_⟩
  refine List.forall_mem_cons.mpr ⟨am_lconst_ok (n := 1) X (by decide +kernel), ?_⟩
  refine List.forall_mem_cons.mpr ⟨am_last_ok X am_Y0 (by decide +kernel), ?_⟩
  refine List.forall_mem_cons.mpr ⟨am_aload_n_ok (k := 0) X (by decide +kernel), ?_⟩
  refine List.forall_mem_cons.mpr ⟨am_lload_n_ok (k := 1) X (by decide +kernel), ?_⟩
  refine List.forall_mem_cons.mpr ⟨am_callV_ok (C := R_Wi) (T := F_Wi) (N := 1) (idx := 13) X rfl (am_GV m_Wi_13 v_Wi_multiplyBy.1 v_Wi_multiplyBy.2.1 v_Wi_multiplyBy.2.2.1 v_Wi_multiplyBy.2.2.2) ⟨rfl, v_Wi_multiplyByd⟩ ⟨by decide, by decide⟩ (Nat.zero_le _) (by decide +kernel), ?_⟩
  refine List.forall_mem_cons.mpr ⟨am_aload_n_ok (k := 0) X (by decide +kernel), ?_⟩
  refine List.forall_mem_cons.mpr ⟨am_lload_n_ok (k := 3) X (by decide +kernel), ?_⟩
  refine List.forall_mem_cons.mpr ⟨am_callV_ok (C := R_Wi) (T := F_Wi) (N := 1) (idx := 13) X rfl (am_GV m_Wi_13 v_Wi_multiplyBy.1 v_Wi_multiplyBy.2.1 v_Wi_multiplyBy.2.2.1 v_Wi_multiplyBy.2.2.2) ⟨rfl, v_Wi_multiplyByd⟩ ⟨by decide, by decide⟩ (Nat.zero_le _) (by decide +kernel), ?_⟩
  refine List.forall_mem_cons.mpr ⟨am_aload_n_ok (k := 0) X (by decide +kernel), ?_⟩
  refine List.forall_mem_cons.mpr ⟨am_lload_ok X (by decide +kernel), ?_⟩
  refine List.forall_mem_cons.mpr ⟨am_callV_ok (C := R_Wi) (T := F_Wi) (N := 1) (idx := 13) X rfl (am_GV m_Wi_13 v_Wi_multiplyBy.1 v_Wi_multiplyBy.2.1 v_Wi_multiplyBy.2.2.1 v_Wi_multiplyBy.2.2.2) ⟨rfl, v_Wi_multiplyByd⟩ ⟨by decide, by decide⟩ (Nat.zero_le _) (by decide +kernel), ?_⟩
  refine List.forall_mem_cons.mpr ⟨am_vret_ok X hr (by decide +kernel), ?_⟩
  exact fun _ h => absurd h List.not_mem_nil
abbrev b_Wi_isBelow : AT := [(0, am_ic 4 1), (1, am_ist 2 1), (2, am_ild 2 1), (3, am_if 2 50), (6, am_ald 0 1), (7, am_get am_Y 7 0), (10, am_ild 2 1), (11, am_lald am_Y), (12, am_ald 1 1), (13, am_get am_Y 7 0), (16, am_ild 2 1), (17, am_lald am_Y), (18, am_lcmp 0 44), (22, am_ald 0 1), (23, am_get am_Y 7 0), (26, am_ild 2 1), (27, am_lald am_Y), (28, am_ald 1 1), (29, am_get am_Y 7 0), (32, am_ild 2 1), (33, am_lald am_Y), (34, am_lcmp 3 42), (38, am_ic 1 1), (39, am_goto 43), (42, am_ic 0 1), (43, am_zret), (44, am_inc 2 (-1)), (47, am_goto 2), (50, am_ic 0 1), (51, am_zret)]
set_option maxRecDepth 100000 in
set_option maxHeartbeats 4000000 in
theorem T_Wi_isBelow : am_T am_Y am_cl am_Gw am_mi 42 b_Wi_isBelow := by
  intro E A p l e s m args below meth c Rt X hr
  refine List.forall_mem_cons.mpr ⟨am_iconst_ok X (by decide +kernel), ?_⟩
  refine List.forall_mem_cons.mpr ⟨am_istore_n_ok (k := 2) X (by decide) (by decide +kernel), ?_⟩
  refine List.forall_mem_cons.mpr ⟨am_iload_n_ok (k := 2) X (by decide +kernel), ?_⟩
  refine List.forall_mem_cons.mpr ⟨am_if_lt_ok (off := 47) X (by decide +kernel) (by decide), ?_⟩
  refine List.forall_mem_cons.mpr ⟨am_aload_n_ok (k := 0) X (by decide +kernel), ?_⟩
  refine List.forall_mem_cons.mpr ⟨am_get_ok (C := R_Wi) (T := F_Wi) (N := 1) (idx := 9) X rfl (by decide) (fun w h => List.mem_cons_of_mem _ (u_Wi w h)) (List.mem_cons_of_mem _ w_Wi_9) (by decide +kernel), ?_⟩
  refine List.forall_mem_cons.mpr ⟨am_iload_n_ok (k := 2) X (by decide +kernel), ?_⟩
  refine List.forall_mem_cons.mpr ⟨am_lald_ok X am_Y0 (by decide +kernel), ?_⟩
  refine List.forall_mem_cons.mpr ⟨am_aload_n_ok (k := 1) X (by decide +kernel), ?_⟩
  refine List.forall_mem_cons.mpr ⟨am_get_ok (C := R_Wi) (T := F_Wi) (N := 1) (idx := 9) X rfl (by decide) (fun w h => List.mem_cons_of_mem _ (u_Wi w h)) (List.mem_cons_of_mem _ w_Wi_9) (by decide +kernel), ?_⟩
  refine List.forall_mem_cons.mpr ⟨am_iload_n_ok (k := 2) X (by decide +kernel), ?_⟩
  refine List.forall_mem_cons.mpr ⟨am_lald_ok X am_Y0 (by decide +kernel), ?_⟩
  refine List.forall_mem_cons.mpr ⟨am_lcmp_eq_ok (off := 25) X (by decide +kernel) (by decide +kernel) (by decide), ?_⟩
  refine List.forall_mem_cons.mpr ⟨am_aload_n_ok (k := 0) X (by decide +kernel), ?_⟩
  refine List.forall_mem_cons.mpr ⟨am_get_ok (C := R_Wi) (T := F_Wi) (N := 1) (idx := 9) X rfl (by decide) (fun w h => List.mem_cons_of_mem _ (u_Wi w h)) (List.mem_cons_of_mem _ w_Wi_9) (by decide +kernel), ?_⟩
  refine List.forall_mem_cons.mpr ⟨am_iload_n_ok (k := 2) X (by decide +kernel), ?_⟩
  refine List.forall_mem_cons.mpr ⟨am_lald_ok X am_Y0 (by decide +kernel), ?_⟩
  refine List.forall_mem_cons.mpr ⟨am_aload_n_ok (k := 1) X (by decide +kernel), ?_⟩
  refine List.forall_mem_cons.mpr ⟨am_get_ok (C := R_Wi) (T := F_Wi) (N := 1) (idx := 9) X rfl (by decide) (fun w h => List.mem_cons_of_mem _ (u_Wi w h)) (List.mem_cons_of_mem _ w_Wi_9) (by decide +kernel), ?_⟩
  refine List.forall_mem_cons.mpr ⟨am_iload_n_ok (k := 2) X (by decide +kernel), ?_⟩
  refine List.forall_mem_cons.mpr ⟨am_lald_ok X am_Y0 (by decide +kernel), ?_⟩
  refine List.forall_mem_cons.mpr ⟨am_lcmp_ge_ok (off := 7) X (by decide +kernel) (by decide +kernel) (by decide), ?_⟩
  refine List.forall_mem_cons.mpr ⟨am_iconst_ok X (by decide +kernel), ?_⟩
  refine List.forall_mem_cons.mpr ⟨am_goto_ok (off := 4) X (by decide +kernel) (by decide), ?_⟩
  refine List.forall_mem_cons.mpr ⟨am_iconst_ok X (by decide +kernel), ?_⟩
  refine List.forall_mem_cons.mpr ⟨am_zret_ok X hr (by decide +kernel), ?_⟩
  refine List.forall_mem_cons.mpr ⟨am_iinc_ok X (by decide) (by decide +kernel), ?_⟩
  refine List.forall_mem_cons.mpr ⟨am_goto_ok (off := -45) X (by decide +kernel) (by decide), ?_⟩
  refine List.forall_mem_cons.mpr ⟨am_iconst_ok X (by decide +kernel), ?_⟩
  refine List.forall_mem_cons.mpr ⟨am_zret_ok X hr (by decide +kernel), ?_⟩
  exact fun _ h => absurd h List.not_mem_nil
abbrev b_Hs_isLess : AT := [(0, am_ald 0 1), (1, am_get am_Y 2 2), (4, am_ald 0 1), (5, am_ild 1 1), (6, am_callV am_Y 2 36 1), (9, am_ald 0 1), (10, am_ild 1 1), (11, am_ild 3 1), (12, am_callV am_Y 2 38 2), (15, am_ald 0 1), (16, am_ild 2 1), (17, am_callV am_Y 2 39 1), (20, am_callV am_Y 7 41 3), (23, am_ald 0 1), (24, am_get am_Y 2 3), (27, am_ald 0 1), (28, am_ild 2 1), (29, am_callV am_Y 2 36 1), (32, am_ald 0 1), (33, am_ild 2 1), (34, am_ild 3 1), (35, am_callV am_Y 2 38 2), (38, am_ald 0 1), (39, am_ild 1 1), (40, am_callV am_Y 2 39 1), (43, am_callV am_Y 7 41 3), (46, am_ald 0 1), (47, am_get am_Y 2 2), (50, am_ald 0 1), (51, am_get am_Y 2 3), (54, am_callV am_Y 7 42 1), (57, am_zret)]
set_option maxRecDepth 100000 in
set_option maxHeartbeats 4000000 in
theorem T_Hs_isLess : am_T am_Y am_cl am_Gw am_mi 43 b_Hs_isLess := by
  intro E A p l e s m args below meth c Rt X hr
  refine List.forall_mem_cons.mpr ⟨am_aload_n_ok (k := 0) X (by decide +kernel), ?_⟩
  refine List.forall_mem_cons.mpr ⟨am_get_ok (C := R_Hs) (T := F_Hs) (N := 4) (idx := 10) X rfl (by decide) (fun w h => List.mem_cons_of_mem _ (u_Hs w h)) (List.mem_cons_of_mem _ w_Hs_10) (by decide +kernel), ?_⟩
  refine List.forall_mem_cons.mpr ⟨am_aload_n_ok (k := 0) X (by decide +kernel), ?_⟩
  refine List.forall_mem_cons.mpr ⟨am_iload_n_ok (k := 1) X (by decide +kernel), ?_⟩
  refine List.forall_mem_cons.mpr ⟨am_callV_ok (C := R_Hs) (T := F_Hs) (N := 4) (idx := 67) X rfl (am_GV m_Hs_67 v_Hs_height.1 v_Hs_height.2.1 v_Hs_height.2.2.1 v_Hs_height.2.2.2) ⟨rfl, v_Hs_heightd⟩ ⟨by decide, by decide⟩ (Nat.zero_le _) (by decide +kernel), ?_⟩
  refine List.forall_mem_cons.mpr ⟨am_aload_n_ok (k := 0) X (by decide +kernel), ?_⟩
  refine List.forall_mem_cons.mpr ⟨am_iload_n_ok (k := 1) X (by decide +kernel), ?_⟩
  refine List.forall_mem_cons.mpr ⟨am_iload_n_ok (k := 3) X (by decide +kernel), ?_⟩
  refine List.forall_mem_cons.mpr ⟨am_callV_ok (C := R_Hs) (T := F_Hs) (N := 4) (idx := 71) X rfl (am_GV m_Hs_71 v_Hs_width.1 v_Hs_width.2.1 v_Hs_width.2.2.1 v_Hs_width.2.2.2) ⟨rfl, v_Hs_widthd⟩ ⟨by decide, by decide⟩ (Nat.zero_le _) (by decide +kernel), ?_⟩
  refine List.forall_mem_cons.mpr ⟨am_aload_n_ok (k := 0) X (by decide +kernel), ?_⟩
  refine List.forall_mem_cons.mpr ⟨am_iload_n_ok (k := 2) X (by decide +kernel), ?_⟩
  refine List.forall_mem_cons.mpr ⟨am_callV_ok (C := R_Hs) (T := F_Hs) (N := 4) (idx := 74) X rfl (am_GV m_Hs_74 v_Hs_length.1 v_Hs_length.2.1 v_Hs_length.2.2.1 v_Hs_length.2.2.2) ⟨rfl, v_Hs_lengthd⟩ ⟨by decide, by decide⟩ (Nat.zero_le _) (by decide +kernel), ?_⟩
  refine List.forall_mem_cons.mpr ⟨am_callV_ok (C := R_Wi) (T := F_Wi) (N := 1) (idx := 77) X rfl (am_GV m_Hs_77 v_Wi_setTo.1 v_Wi_setTo.2.1 v_Wi_setTo.2.2.1 v_Wi_setTo.2.2.2) ⟨rfl, v_Wi_setTod⟩ ⟨by decide, by decide⟩ (Nat.zero_le _) (by decide +kernel), ?_⟩
  refine List.forall_mem_cons.mpr ⟨am_aload_n_ok (k := 0) X (by decide +kernel), ?_⟩
  refine List.forall_mem_cons.mpr ⟨am_get_ok (C := R_Hs) (T := F_Hs) (N := 4) (idx := 16) X rfl (by decide) (fun w h => List.mem_cons_of_mem _ (u_Hs w h)) (List.mem_cons_of_mem _ w_Hs_16) (by decide +kernel), ?_⟩
  refine List.forall_mem_cons.mpr ⟨am_aload_n_ok (k := 0) X (by decide +kernel), ?_⟩
  refine List.forall_mem_cons.mpr ⟨am_iload_n_ok (k := 2) X (by decide +kernel), ?_⟩
  refine List.forall_mem_cons.mpr ⟨am_callV_ok (C := R_Hs) (T := F_Hs) (N := 4) (idx := 67) X rfl (am_GV m_Hs_67 v_Hs_height.1 v_Hs_height.2.1 v_Hs_height.2.2.1 v_Hs_height.2.2.2) ⟨rfl, v_Hs_heightd⟩ ⟨by decide, by decide⟩ (Nat.zero_le _) (by decide +kernel), ?_⟩
  refine List.forall_mem_cons.mpr ⟨am_aload_n_ok (k := 0) X (by decide +kernel), ?_⟩
  refine List.forall_mem_cons.mpr ⟨am_iload_n_ok (k := 2) X (by decide +kernel), ?_⟩
  refine List.forall_mem_cons.mpr ⟨am_iload_n_ok (k := 3) X (by decide +kernel), ?_⟩
  refine List.forall_mem_cons.mpr ⟨am_callV_ok (C := R_Hs) (T := F_Hs) (N := 4) (idx := 71) X rfl (am_GV m_Hs_71 v_Hs_width.1 v_Hs_width.2.1 v_Hs_width.2.2.1 v_Hs_width.2.2.2) ⟨rfl, v_Hs_widthd⟩ ⟨by decide, by decide⟩ (Nat.zero_le _) (by decide +kernel), ?_⟩
  refine List.forall_mem_cons.mpr ⟨am_aload_n_ok (k := 0) X (by decide +kernel), ?_⟩
  refine List.forall_mem_cons.mpr ⟨am_iload_n_ok (k := 1) X (by decide +kernel), ?_⟩
  refine List.forall_mem_cons.mpr ⟨am_callV_ok (C := R_Hs) (T := F_Hs) (N := 4) (idx := 74) X rfl (am_GV m_Hs_74 v_Hs_length.1 v_Hs_length.2.1 v_Hs_length.2.2.1 v_Hs_length.2.2.2) ⟨rfl, v_Hs_lengthd⟩ ⟨by decide, by decide⟩ (Nat.zero_le _) (by decide +kernel), ?_⟩
  refine List.forall_mem_cons.mpr ⟨am_callV_ok (C := R_Wi) (T := F_Wi) (N := 1) (idx := 77) X rfl (am_GV m_Hs_77 v_Wi_setTo.1 v_Wi_setTo.2.1 v_Wi_setTo.2.2.1 v_Wi_setTo.2.2.2) ⟨rfl, v_Wi_setTod⟩ ⟨by decide, by decide⟩ (Nat.zero_le _) (by decide +kernel), ?_⟩
  refine List.forall_mem_cons.mpr ⟨am_aload_n_ok (k := 0) X (by decide +kernel), ?_⟩
  refine List.forall_mem_cons.mpr ⟨am_get_ok (C := R_Hs) (T := F_Hs) (N := 4) (idx := 10) X rfl (by decide) (fun w h => List.mem_cons_of_mem _ (u_Hs w h)) (List.mem_cons_of_mem _ w_Hs_10) (by decide +kernel), ?_⟩
  refine List.forall_mem_cons.mpr ⟨am_aload_n_ok (k := 0) X (by decide +kernel), ?_⟩
  refine List.forall_mem_cons.mpr ⟨am_get_ok (C := R_Hs) (T := F_Hs) (N := 4) (idx := 16) X rfl (by decide) (fun w h => List.mem_cons_of_mem _ (u_Hs w h)) (List.mem_cons_of_mem _ w_Hs_16) (by decide +kernel), ?_⟩
  refine List.forall_mem_cons.mpr ⟨am_callV_ok (C := R_Wi) (T := F_Wi) (N := 1) (idx := 81) X rfl (am_GV m_Hs_81 v_Wi_isBelow.1 v_Wi_isBelow.2.1 v_Wi_isBelow.2.2.1 v_Wi_isBelow.2.2.2) ⟨rfl, v_Wi_isBelowd⟩ ⟨by decide, by decide⟩ (Nat.zero_le _) (by decide +kernel), ?_⟩
  refine List.forall_mem_cons.mpr ⟨am_zret_ok X hr (by decide +kernel), ?_⟩
  exact fun _ h => absurd h List.not_mem_nil
abbrev b_Hs_firstLeast : AT := [(0, am_ic 0 1), (1, am_ist 2 1), (2, am_ic 1 1), (3, am_ist 3 1), (4, am_ild 3 1), (5, am_ald 0 1), (6, am_get am_Y 2 1), (9, am_get am_Y 1 3), (12, am_icmp 3 33), (15, am_ald 0 1), (16, am_ild 3 1), (17, am_ild 2 1), (18, am_ild 1 1), (19, am_callV am_Y 2 43 3), (22, am_if 0 27), (25, am_ild 3 1), (26, am_ist 2 1), (27, am_inc 3 (1)), (30, am_goto 4), (33, am_ild 2 1), (34, am_ret)]
set_option maxRecDepth 100000 in
set_option maxHeartbeats 4000000 in
theorem T_Hs_firstLeast : am_T am_Y am_cl am_Gw am_mi 44 b_Hs_firstLeast := by
  intro E A p l e s m args below meth c Rt X hr
  refine List.forall_mem_cons.mpr ⟨am_iconst_ok X (by decide +kernel), ?_⟩
  refine List.forall_mem_cons.mpr ⟨am_istore_n_ok (k := 2) X (by decide) (by decide +kernel), ?_⟩
  refine List.forall_mem_cons.mpr ⟨am_iconst_ok X (by decide +kernel), ?_⟩
  refine List.forall_mem_cons.mpr ⟨am_istore_n_ok (k := 3) X (by decide) (by decide +kernel), ?_⟩
  refine List.forall_mem_cons.mpr ⟨am_iload_n_ok (k := 3) X (by decide +kernel), ?_⟩
  refine List.forall_mem_cons.mpr ⟨am_aload_n_ok (k := 0) X (by decide +kernel), ?_⟩
  refine List.forall_mem_cons.mpr ⟨am_get_ok (C := R_Hs) (T := F_Hs) (N := 4) (idx := 23) X rfl (by decide) (fun w h => List.mem_cons_of_mem _ (u_Hs w h)) (List.mem_cons_of_mem _ w_Hs_23) (by decide +kernel), ?_⟩
  refine List.forall_mem_cons.mpr ⟨am_get_ok (C := R_Hu) (T := F_Hu) (N := 5) (idx := 27) X rfl (by decide) (fun w h => List.mem_cons_of_mem _ (u_Hu w h)) (List.mem_cons_of_mem _ w_Hs_27) (by decide +kernel), ?_⟩
  refine List.forall_mem_cons.mpr ⟨am_icmp_ge_ok (off := 21) X (by decide +kernel) (by decide), ?_⟩
  refine List.forall_mem_cons.mpr ⟨am_aload_n_ok (k := 0) X (by decide +kernel), ?_⟩
  refine List.forall_mem_cons.mpr ⟨am_iload_n_ok (k := 3) X (by decide +kernel), ?_⟩
  refine List.forall_mem_cons.mpr ⟨am_iload_n_ok (k := 2) X (by decide +kernel), ?_⟩
  refine List.forall_mem_cons.mpr ⟨am_iload_n_ok (k := 1) X (by decide +kernel), ?_⟩
  refine List.forall_mem_cons.mpr ⟨am_callV_ok (C := R_Hs) (T := F_Hs) (N := 4) (idx := 63) X rfl (am_GV m_Hs_63 v_Hs_isLess.1 v_Hs_isLess.2.1 v_Hs_isLess.2.2.1 v_Hs_isLess.2.2.2) ⟨rfl, v_Hs_isLessd⟩ ⟨by decide, by decide⟩ (Nat.zero_le _) (by decide +kernel), ?_⟩
  refine List.forall_mem_cons.mpr ⟨am_if_eq_ok (off := 5) X (by decide +kernel) (by decide), ?_⟩
  refine List.forall_mem_cons.mpr ⟨am_iload_n_ok (k := 3) X (by decide +kernel), ?_⟩
  refine List.forall_mem_cons.mpr ⟨am_istore_n_ok (k := 2) X (by decide) (by decide +kernel), ?_⟩
  refine List.forall_mem_cons.mpr ⟨am_iinc_ok X (by decide) (by decide +kernel), ?_⟩
  refine List.forall_mem_cons.mpr ⟨am_goto_ok (off := -26) X (by decide +kernel) (by decide), ?_⟩
  refine List.forall_mem_cons.mpr ⟨am_iload_n_ok (k := 2) X (by decide +kernel), ?_⟩
  refine List.forall_mem_cons.mpr ⟨am_ret_ok X hr (by decide +kernel), ?_⟩
  exact fun _ h => absurd h List.not_mem_nil
abbrev b_De_best : AT := [(0, am_ald 0 1), (1, am_get am_Y 8 1), (4, am_callV am_Y 1 16 0), (7, am_ald 0 1), (8, am_get am_Y 8 1), (11, am_get am_Y 1 3), (14, am_ic 3 1), (15, am_icmp 2 27), (18, am_ild 1 1), (19, am_if 0 29), (22, am_ild 1 1), (23, am_ic 1 1), (24, am_icmp 0 29), (27, am_ic (-1) 1), (28, am_ret), (29, am_ald 0 1), (30, am_get am_Y 8 2), (33, am_ild 1 1), (34, am_callV am_Y 2 44 1), (37, am_ret)]
set_option maxRecDepth 100000 in
set_option maxHeartbeats 4000000 in
theorem T_De_best : am_T am_Y am_cl am_Gw am_mi 45 b_De_best := by
  intro E A p l e s m args below meth c Rt X hr
  refine List.forall_mem_cons.mpr ⟨am_aload_n_ok (k := 0) X (by decide +kernel), ?_⟩
  refine List.forall_mem_cons.mpr ⟨am_get_ok (C := R_De) (T := F_De) (N := 7) (idx := 21) X rfl (by decide) (fun w h => List.mem_cons_of_mem _ (u_De w h)) (List.mem_cons_of_mem _ w_De_21) (by decide +kernel), ?_⟩
  refine List.forall_mem_cons.mpr ⟨am_callV_ok (C := R_Hu) (T := F_Hu) (N := 5) (idx := 80) X rfl (am_GV m_De_80 v_Hu_refresh.1 v_Hu_refresh.2.1 v_Hu_refresh.2.2.1 v_Hu_refresh.2.2.2) ⟨rfl, v_Hu_refreshd⟩ ⟨by decide, by decide⟩ (Nat.zero_le _) (by decide +kernel), ?_⟩
  refine List.forall_mem_cons.mpr ⟨am_aload_n_ok (k := 0) X (by decide +kernel), ?_⟩
  refine List.forall_mem_cons.mpr ⟨am_get_ok (C := R_De) (T := F_De) (N := 7) (idx := 21) X rfl (by decide) (fun w h => List.mem_cons_of_mem _ (u_De w h)) (List.mem_cons_of_mem _ w_De_21) (by decide +kernel), ?_⟩
  refine List.forall_mem_cons.mpr ⟨am_get_ok (C := R_Hu) (T := F_Hu) (N := 5) (idx := 83) X rfl (by decide) (fun w h => List.mem_cons_of_mem _ (u_Hu w h)) (List.mem_cons_of_mem _ w_De_83) (by decide +kernel), ?_⟩
  refine List.forall_mem_cons.mpr ⟨am_iconst_ok X (by decide +kernel), ?_⟩
  refine List.forall_mem_cons.mpr ⟨am_icmp_lt_ok (off := 12) X (by decide +kernel) (by decide), ?_⟩
  refine List.forall_mem_cons.mpr ⟨am_iload_n_ok (k := 1) X (by decide +kernel), ?_⟩
  refine List.forall_mem_cons.mpr ⟨am_if_eq_ok (off := 10) X (by decide +kernel) (by decide), ?_⟩
  refine List.forall_mem_cons.mpr ⟨am_iload_n_ok (k := 1) X (by decide +kernel), ?_⟩
  refine List.forall_mem_cons.mpr ⟨am_iconst_ok X (by decide +kernel), ?_⟩
  refine List.forall_mem_cons.mpr ⟨am_icmp_eq_ok (off := 5) X (by decide +kernel) (by decide), ?_⟩
  refine List.forall_mem_cons.mpr ⟨am_iconst_ok X (by decide +kernel), ?_⟩
  refine List.forall_mem_cons.mpr ⟨am_ret_ok X hr (by decide +kernel), ?_⟩
  refine List.forall_mem_cons.mpr ⟨am_aload_n_ok (k := 0) X (by decide +kernel), ?_⟩
  refine List.forall_mem_cons.mpr ⟨am_get_ok (C := R_De) (T := F_De) (N := 7) (idx := 30) X rfl (by decide) (fun w h => List.mem_cons_of_mem _ (u_De w h)) (List.mem_cons_of_mem _ w_De_30) (by decide +kernel), ?_⟩
  refine List.forall_mem_cons.mpr ⟨am_iload_n_ok (k := 1) X (by decide +kernel), ?_⟩
  refine List.forall_mem_cons.mpr ⟨am_callV_ok (C := R_Hs) (T := F_Hs) (N := 4) (idx := 130) X rfl (am_GV m_De_130 v_Hs_firstLeast.1 v_Hs_firstLeast.2.1 v_Hs_firstLeast.2.2.1 v_Hs_firstLeast.2.2.2) ⟨rfl, v_Hs_firstLeastd⟩ ⟨by decide, by decide⟩ (Nat.zero_le _) (by decide +kernel), ?_⟩
  refine List.forall_mem_cons.mpr ⟨am_ret_ok X hr (by decide +kernel), ?_⟩
  exact fun _ h => absurd h List.not_mem_nil
abbrev b_De_side : AT := [(0, am_ald 0 1), (1, am_get am_Y 8 1), (4, am_callV am_Y 1 16 0), (7, am_ald 0 1), (8, am_get am_Y 8 1), (11, am_get am_Y 1 3), (14, am_ic 3 1), (15, am_icmp 2 33), (18, am_ild 1 1), (19, am_if 2 33), (22, am_ild 1 1), (23, am_ald 0 1), (24, am_get am_Y 8 1), (27, am_get am_Y 1 3), (30, am_icmp 2 43), (43, am_ild 2 1), (44, am_tsw 0 2 99 [72, 81, 90]), (72, am_ald 0 1), (73, am_get am_Y 8 2), (76, am_ild 1 1), (77, am_callV am_Y 2 36 1), (80, am_lret), (81, am_ald 0 1), (82, am_get am_Y 8 2), (85, am_ild 1 1), (86, am_callV am_Y 2 39 1), (89, am_lret), (90, am_ald 0 1), (91, am_get am_Y 8 2), (94, am_ild 1 1), (95, am_callV am_Y 2 37 1), (98, am_lret)]
set_option maxRecDepth 100000 in
set_option maxHeartbeats 4000000 in
theorem T_De_side : am_T am_Y am_cl am_Gw am_mi 46 b_De_side := by
  intro E A p l e s m args below meth c Rt X hr
  refine List.forall_mem_cons.mpr ⟨am_aload_n_ok (k := 0) X (by decide +kernel), ?_⟩
  refine List.forall_mem_cons.mpr ⟨am_get_ok (C := R_De) (T := F_De) (N := 7) (idx := 21) X rfl (by decide) (fun w h => List.mem_cons_of_mem _ (u_De w h)) (List.mem_cons_of_mem _ w_De_21) (by decide +kernel), ?_⟩
  refine List.forall_mem_cons.mpr ⟨am_callV_ok (C := R_Hu) (T := F_Hu) (N := 5) (idx := 80) X rfl (am_GV m_De_80 v_Hu_refresh.1 v_Hu_refresh.2.1 v_Hu_refresh.2.2.1 v_Hu_refresh.2.2.2) ⟨rfl, v_Hu_refreshd⟩ ⟨by decide, by decide⟩ (Nat.zero_le _) (by decide +kernel), ?_⟩
  refine List.forall_mem_cons.mpr ⟨am_aload_n_ok (k := 0) X (by decide +kernel), ?_⟩
  refine List.forall_mem_cons.mpr ⟨am_get_ok (C := R_De) (T := F_De) (N := 7) (idx := 21) X rfl (by decide) (fun w h => List.mem_cons_of_mem _ (u_De w h)) (List.mem_cons_of_mem _ w_De_21) (by decide +kernel), ?_⟩
  refine List.forall_mem_cons.mpr ⟨am_get_ok (C := R_Hu) (T := F_Hu) (N := 5) (idx := 83) X rfl (by decide) (fun w h => List.mem_cons_of_mem _ (u_Hu w h)) (List.mem_cons_of_mem _ w_De_83) (by decide +kernel), ?_⟩
  refine List.forall_mem_cons.mpr ⟨am_iconst_ok X (by decide +kernel), ?_⟩
  refine List.forall_mem_cons.mpr ⟨am_icmp_lt_ok (off := 18) X (by decide +kernel) (by decide), ?_⟩
  refine List.forall_mem_cons.mpr ⟨am_iload_n_ok (k := 1) X (by decide +kernel), ?_⟩
  refine List.forall_mem_cons.mpr ⟨am_if_lt_ok (off := 14) X (by decide +kernel) (by decide), ?_⟩
  refine List.forall_mem_cons.mpr ⟨am_iload_n_ok (k := 1) X (by decide +kernel), ?_⟩
  refine List.forall_mem_cons.mpr ⟨am_aload_n_ok (k := 0) X (by decide +kernel), ?_⟩
  refine List.forall_mem_cons.mpr ⟨am_get_ok (C := R_De) (T := F_De) (N := 7) (idx := 21) X rfl (by decide) (fun w h => List.mem_cons_of_mem _ (u_De w h)) (List.mem_cons_of_mem _ w_De_21) (by decide +kernel), ?_⟩
  refine List.forall_mem_cons.mpr ⟨am_get_ok (C := R_Hu) (T := F_Hu) (N := 5) (idx := 83) X rfl (by decide) (fun w h => List.mem_cons_of_mem _ (u_Hu w h)) (List.mem_cons_of_mem _ w_De_83) (by decide +kernel), ?_⟩
  refine List.forall_mem_cons.mpr ⟨am_icmp_lt_ok (off := 13) X (by decide +kernel) (by decide), ?_⟩
  refine List.forall_mem_cons.mpr ⟨am_iload_n_ok (k := 2) X (by decide +kernel), ?_⟩
  refine List.forall_mem_cons.mpr ⟨am_tsw_ok X (dflt := 55) (offs := #[28, 37, 46]) (len := 28) (by decide +kernel) (by decide) (by decide) (by decide), ?_⟩
  refine List.forall_mem_cons.mpr ⟨am_aload_n_ok (k := 0) X (by decide +kernel), ?_⟩
  refine List.forall_mem_cons.mpr ⟨am_get_ok (C := R_De) (T := F_De) (N := 7) (idx := 30) X rfl (by decide) (fun w h => List.mem_cons_of_mem _ (u_De w h)) (List.mem_cons_of_mem _ w_De_30) (by decide +kernel), ?_⟩
  refine List.forall_mem_cons.mpr ⟨am_iload_n_ok (k := 1) X (by decide +kernel), ?_⟩
  refine List.forall_mem_cons.mpr ⟨am_callV_ok (C := R_Hs) (T := F_Hs) (N := 4) (idx := 139) X rfl (am_GV m_De_139 v_Hs_height.1 v_Hs_height.2.1 v_Hs_height.2.2.1 v_Hs_height.2.2.2) ⟨rfl, v_Hs_heightd⟩ ⟨by decide, by decide⟩ (Nat.zero_le _) (by decide +kernel), ?_⟩
  refine List.forall_mem_cons.mpr ⟨am_lret_ok X hr (by decide +kernel), ?_⟩
  refine List.forall_mem_cons.mpr ⟨am_aload_n_ok (k := 0) X (by decide +kernel), ?_⟩
  refine List.forall_mem_cons.mpr ⟨am_get_ok (C := R_De) (T := F_De) (N := 7) (idx := 30) X rfl (by decide) (fun w h => List.mem_cons_of_mem _ (u_De w h)) (List.mem_cons_of_mem _ w_De_30) (by decide +kernel), ?_⟩
  refine List.forall_mem_cons.mpr ⟨am_iload_n_ok (k := 1) X (by decide +kernel), ?_⟩
  refine List.forall_mem_cons.mpr ⟨am_callV_ok (C := R_Hs) (T := F_Hs) (N := 4) (idx := 143) X rfl (am_GV m_De_143 v_Hs_length.1 v_Hs_length.2.1 v_Hs_length.2.2.1 v_Hs_length.2.2.2) ⟨rfl, v_Hs_lengthd⟩ ⟨by decide, by decide⟩ (Nat.zero_le _) (by decide +kernel), ?_⟩
  refine List.forall_mem_cons.mpr ⟨am_lret_ok X hr (by decide +kernel), ?_⟩
  refine List.forall_mem_cons.mpr ⟨am_aload_n_ok (k := 0) X (by decide +kernel), ?_⟩
  refine List.forall_mem_cons.mpr ⟨am_get_ok (C := R_De) (T := F_De) (N := 7) (idx := 30) X rfl (by decide) (fun w h => List.mem_cons_of_mem _ (u_De w h)) (List.mem_cons_of_mem _ w_De_30) (by decide +kernel), ?_⟩
  refine List.forall_mem_cons.mpr ⟨am_iload_n_ok (k := 1) X (by decide +kernel), ?_⟩
  refine List.forall_mem_cons.mpr ⟨am_callV_ok (C := R_Hs) (T := F_Hs) (N := 4) (idx := 146) X rfl (am_GV m_De_146 v_Hs_span.1 v_Hs_span.2.1 v_Hs_span.2.2.1 v_Hs_span.2.2.2) ⟨rfl, v_Hs_spand⟩ ⟨by decide, by decide⟩ (Nat.zero_le _) (by decide +kernel), ?_⟩
  refine List.forall_mem_cons.mpr ⟨am_lret_ok X hr (by decide +kernel), ?_⟩
  exact fun _ h => absurd h List.not_mem_nil
abbrev b_De_requireInPlane : AT := [(0, am_ild 0 1), (1, am_ild 1 1), (2, am_callS 0 2), (5, am_if 1 18), (18, am_vret)]
set_option maxRecDepth 100000 in
set_option maxHeartbeats 4000000 in
theorem T_De_requireInPlane : am_T am_Y am_cl am_Gw am_mi 47 b_De_requireInPlane := by
  intro E A p l e s m args below meth c Rt X hr
  refine List.forall_mem_cons.mpr ⟨am_iload_n_ok (k := 0) X (by decide +kernel), ?_⟩
  refine List.forall_mem_cons.mpr ⟨am_iload_n_ok (k := 1) X (by decide +kernel), ?_⟩
  refine List.forall_mem_cons.mpr ⟨am_callS_ok (idx := 64) X (am_GS m_De_64 v_De_isInPlane.1 v_De_isInPlane.2.1 v_De_isInPlane.2.2) ⟨rfl, v_De_isInPlaned⟩ ⟨by decide, by decide⟩ (by decide +kernel), ?_⟩
  refine List.forall_mem_cons.mpr ⟨am_if_ne_ok (off := 13) X (by decide +kernel) (by decide), ?_⟩
  refine List.forall_mem_cons.mpr ⟨am_vret_ok X hr (by decide +kernel), ?_⟩
  exact fun _ h => absurd h List.not_mem_nil
abbrev b_Po_ask : AT := [(0, am_ald 0 1), (1, am_get am_Y 4 0), (4, am_ic (60) 2), (6, am_ild 1 1), (7, am_iast am_Y), (8, am_ald 0 1), (9, am_get am_Y 4 1), (12, am_ic (60) 2), (14, am_ild 2 1), (15, am_iast am_Y), (16, am_vret)]
set_option maxRecDepth 100000 in
set_option maxHeartbeats 4000000 in
theorem T_Po_ask : am_T am_Y am_cl am_Gw am_mi 48 b_Po_ask := by
  intro E A p l e s m args below meth c Rt X hr
  refine List.forall_mem_cons.mpr ⟨am_aload_n_ok (k := 0) X (by decide +kernel), ?_⟩
  refine List.forall_mem_cons.mpr ⟨am_get_ok (C := R_Po) (T := F_Po) (N := 4) (idx := 9) X rfl (by decide) (fun w h => List.mem_cons_of_mem _ (u_Po w h)) (List.mem_cons_of_mem _ w_Po_9) (by decide +kernel), ?_⟩
  refine List.forall_mem_cons.mpr ⟨am_bipush_ok X (by decide +kernel) (by decide), ?_⟩
  refine List.forall_mem_cons.mpr ⟨am_iload_n_ok (k := 1) X (by decide +kernel), ?_⟩
  refine List.forall_mem_cons.mpr ⟨am_iast_ok X am_Y0 (by decide +kernel), ?_⟩
  refine List.forall_mem_cons.mpr ⟨am_aload_n_ok (k := 0) X (by decide +kernel), ?_⟩
  refine List.forall_mem_cons.mpr ⟨am_get_ok (C := R_Po) (T := F_Po) (N := 4) (idx := 15) X rfl (by decide) (fun w h => List.mem_cons_of_mem _ (u_Po w h)) (List.mem_cons_of_mem _ w_Po_15) (by decide +kernel), ?_⟩
  refine List.forall_mem_cons.mpr ⟨am_bipush_ok X (by decide +kernel) (by decide), ?_⟩
  refine List.forall_mem_cons.mpr ⟨am_iload_n_ok (k := 2) X (by decide +kernel), ?_⟩
  refine List.forall_mem_cons.mpr ⟨am_iast_ok X am_Y0 (by decide +kernel), ?_⟩
  refine List.forall_mem_cons.mpr ⟨am_vret_ok X hr (by decide +kernel), ?_⟩
  exact fun _ h => absurd h List.not_mem_nil
abbrev b_De_where : AT := [(0, am_ild 1 1), (1, am_ild 2 1), (2, am_callS 47 2), (5, am_ald 0 1), (6, am_get am_Y 8 1), (9, am_callV am_Y 1 16 0), (12, am_ald 0 1), (13, am_get am_Y 8 0), (16, am_ild 1 1), (17, am_ild 2 1), (18, am_callV am_Y 4 48 2), (21, am_ald 0 1), (22, am_get am_Y 8 1), (25, am_ic (60) 2), (27, am_callV am_Y 1 20 1), (30, am_ret)]
set_option maxRecDepth 100000 in
set_option maxHeartbeats 4000000 in
theorem T_De_where : am_T am_Y am_cl am_Gw am_mi 49 b_De_where := by
  intro E A p l e s m args below meth c Rt X hr
  refine List.forall_mem_cons.mpr ⟨am_iload_n_ok (k := 1) X (by decide +kernel), ?_⟩
  refine List.forall_mem_cons.mpr ⟨am_iload_n_ok (k := 2) X (by decide +kernel), ?_⟩
  refine List.forall_mem_cons.mpr ⟨am_callS_ok (idx := 151) X (am_GS m_De_151 v_De_requireInPlane.1 v_De_requireInPlane.2.1 v_De_requireInPlane.2.2) ⟨rfl, v_De_requireInPlaned⟩ ⟨by decide, by decide⟩ (by decide +kernel), ?_⟩
  refine List.forall_mem_cons.mpr ⟨am_aload_n_ok (k := 0) X (by decide +kernel), ?_⟩
  refine List.forall_mem_cons.mpr ⟨am_get_ok (C := R_De) (T := F_De) (N := 7) (idx := 21) X rfl (by decide) (fun w h => List.mem_cons_of_mem _ (u_De w h)) (List.mem_cons_of_mem _ w_De_21) (by decide +kernel), ?_⟩
  refine List.forall_mem_cons.mpr ⟨am_callV_ok (C := R_Hu) (T := F_Hu) (N := 5) (idx := 80) X rfl (am_GV m_De_80 v_Hu_refresh.1 v_Hu_refresh.2.1 v_Hu_refresh.2.2.1 v_Hu_refresh.2.2.2) ⟨rfl, v_Hu_refreshd⟩ ⟨by decide, by decide⟩ (Nat.zero_le _) (by decide +kernel), ?_⟩
  refine List.forall_mem_cons.mpr ⟨am_aload_n_ok (k := 0) X (by decide +kernel), ?_⟩
  refine List.forall_mem_cons.mpr ⟨am_get_ok (C := R_De) (T := F_De) (N := 7) (idx := 12) X rfl (by decide) (fun w h => List.mem_cons_of_mem _ (u_De w h)) (List.mem_cons_of_mem _ w_De_12) (by decide +kernel), ?_⟩
  refine List.forall_mem_cons.mpr ⟨am_iload_n_ok (k := 1) X (by decide +kernel), ?_⟩
  refine List.forall_mem_cons.mpr ⟨am_iload_n_ok (k := 2) X (by decide +kernel), ?_⟩
  refine List.forall_mem_cons.mpr ⟨am_callV_ok (C := R_Po) (T := F_Po) (N := 4) (idx := 154) X rfl (am_GV m_De_154 v_Po_ask.1 v_Po_ask.2.1 v_Po_ask.2.2.1 v_Po_ask.2.2.2) ⟨rfl, v_Po_askd⟩ ⟨by decide, by decide⟩ (Nat.zero_le _) (by decide +kernel), ?_⟩
  refine List.forall_mem_cons.mpr ⟨am_aload_n_ok (k := 0) X (by decide +kernel), ?_⟩
  refine List.forall_mem_cons.mpr ⟨am_get_ok (C := R_De) (T := F_De) (N := 7) (idx := 21) X rfl (by decide) (fun w h => List.mem_cons_of_mem _ (u_De w h)) (List.mem_cons_of_mem _ w_De_21) (by decide +kernel), ?_⟩
  refine List.forall_mem_cons.mpr ⟨am_bipush_ok X (by decide +kernel) (by decide), ?_⟩
  refine List.forall_mem_cons.mpr ⟨am_callV_ok (C := R_Hu) (T := F_Hu) (N := 5) (idx := 157) X rfl (am_GV m_De_157 v_Hu_holds.1 v_Hu_holds.2.1 v_Hu_holds.2.2.1 v_Hu_holds.2.2.2) ⟨rfl, v_Hu_holdsd⟩ ⟨by decide, by decide⟩ (Nat.zero_le _) (by decide +kernel), ?_⟩
  refine List.forall_mem_cons.mpr ⟨am_ret_ok X hr (by decide +kernel), ?_⟩
  exact fun _ h => absurd h List.not_mem_nil
abbrev b_De_nearest : AT := [(0, am_ild 1 1), (1, am_ild 2 1), (2, am_callS 47 2), (5, am_ald 0 1), (6, am_get am_Y 8 0), (9, am_get am_Y 4 2), (12, am_if 1 17), (15, am_ic (-1) 1), (16, am_ret), (17, am_ald 0 1), (18, am_get am_Y 8 0), (21, am_ild 1 1), (22, am_ild 2 1), (23, am_callV am_Y 4 48 2), (26, am_ic 0 1), (27, am_ist 3 1), (28, am_ic 1 1), (29, am_ist 4 2), (31, am_ild 4 2), (33, am_ald 0 1), (34, am_get am_Y 8 0), (37, am_get am_Y 4 2), (40, am_icmp 3 77), (43, am_ald 0 1), (44, am_get am_Y 8 0), (47, am_ild 4 2), (49, am_ic (60) 2), (51, am_callV am_Y 4 12 2), (54, am_ald 0 1), (55, am_get am_Y 8 0), (58, am_ild 3 1), (59, am_ic (60) 2), (61, am_callV am_Y 4 12 2), (64, am_lcmp 3 71), (68, am_ild 4 2), (70, am_ist 3 1), (71, am_inc 4 (1)), (74, am_goto 31), (77, am_ild 3 1), (78, am_ret)]
set_option maxRecDepth 100000 in
set_option maxHeartbeats 4000000 in
theorem T_De_nearest : am_T am_Y am_cl am_Gw am_mi 50 b_De_nearest := by
  intro E A p l e s m args below meth c Rt X hr
  refine List.forall_mem_cons.mpr ⟨am_iload_n_ok (k := 1) X (by decide +kernel), ?_⟩
  refine List.forall_mem_cons.mpr ⟨am_iload_n_ok (k := 2) X (by decide +kernel), ?_⟩
  refine List.forall_mem_cons.mpr ⟨am_callS_ok (idx := 151) X (am_GS m_De_151 v_De_requireInPlane.1 v_De_requireInPlane.2.1 v_De_requireInPlane.2.2) ⟨rfl, v_De_requireInPlaned⟩ ⟨by decide, by decide⟩ (by decide +kernel), ?_⟩
  refine List.forall_mem_cons.mpr ⟨am_aload_n_ok (k := 0) X (by decide +kernel), ?_⟩
  refine List.forall_mem_cons.mpr ⟨am_get_ok (C := R_De) (T := F_De) (N := 7) (idx := 12) X rfl (by decide) (fun w h => List.mem_cons_of_mem _ (u_De w h)) (List.mem_cons_of_mem _ w_De_12) (by decide +kernel), ?_⟩
  refine List.forall_mem_cons.mpr ⟨am_get_ok (C := R_Po) (T := F_Po) (N := 4) (idx := 68) X rfl (by decide) (fun w h => List.mem_cons_of_mem _ (u_Po w h)) (List.mem_cons_of_mem _ w_De_68) (by decide +kernel), ?_⟩
  refine List.forall_mem_cons.mpr ⟨am_if_ne_ok (off := 5) X (by decide +kernel) (by decide), ?_⟩
  refine List.forall_mem_cons.mpr ⟨am_iconst_ok X (by decide +kernel), ?_⟩
  refine List.forall_mem_cons.mpr ⟨am_ret_ok X hr (by decide +kernel), ?_⟩
  refine List.forall_mem_cons.mpr ⟨am_aload_n_ok (k := 0) X (by decide +kernel), ?_⟩
  refine List.forall_mem_cons.mpr ⟨am_get_ok (C := R_De) (T := F_De) (N := 7) (idx := 12) X rfl (by decide) (fun w h => List.mem_cons_of_mem _ (u_De w h)) (List.mem_cons_of_mem _ w_De_12) (by decide +kernel), ?_⟩
  refine List.forall_mem_cons.mpr ⟨am_iload_n_ok (k := 1) X (by decide +kernel), ?_⟩
  refine List.forall_mem_cons.mpr ⟨am_iload_n_ok (k := 2) X (by decide +kernel), ?_⟩
  refine List.forall_mem_cons.mpr ⟨am_callV_ok (C := R_Po) (T := F_Po) (N := 4) (idx := 154) X rfl (am_GV m_De_154 v_Po_ask.1 v_Po_ask.2.1 v_Po_ask.2.2.1 v_Po_ask.2.2.2) ⟨rfl, v_Po_askd⟩ ⟨by decide, by decide⟩ (Nat.zero_le _) (by decide +kernel), ?_⟩
  refine List.forall_mem_cons.mpr ⟨am_iconst_ok X (by decide +kernel), ?_⟩
  refine List.forall_mem_cons.mpr ⟨am_istore_n_ok (k := 3) X (by decide) (by decide +kernel), ?_⟩
  refine List.forall_mem_cons.mpr ⟨am_iconst_ok X (by decide +kernel), ?_⟩
  refine List.forall_mem_cons.mpr ⟨am_istore_ok X (by decide) (by decide +kernel), ?_⟩
  refine List.forall_mem_cons.mpr ⟨am_iload_ok X (by decide +kernel), ?_⟩
  refine List.forall_mem_cons.mpr ⟨am_aload_n_ok (k := 0) X (by decide +kernel), ?_⟩
  refine List.forall_mem_cons.mpr ⟨am_get_ok (C := R_De) (T := F_De) (N := 7) (idx := 12) X rfl (by decide) (fun w h => List.mem_cons_of_mem _ (u_De w h)) (List.mem_cons_of_mem _ w_De_12) (by decide +kernel), ?_⟩
  refine List.forall_mem_cons.mpr ⟨am_get_ok (C := R_Po) (T := F_Po) (N := 4) (idx := 68) X rfl (by decide) (fun w h => List.mem_cons_of_mem _ (u_Po w h)) (List.mem_cons_of_mem _ w_De_68) (by decide +kernel), ?_⟩
  refine List.forall_mem_cons.mpr ⟨am_icmp_ge_ok (off := 37) X (by decide +kernel) (by decide), ?_⟩
  refine List.forall_mem_cons.mpr ⟨am_aload_n_ok (k := 0) X (by decide +kernel), ?_⟩
  refine List.forall_mem_cons.mpr ⟨am_get_ok (C := R_De) (T := F_De) (N := 7) (idx := 12) X rfl (by decide) (fun w h => List.mem_cons_of_mem _ (u_De w h)) (List.mem_cons_of_mem _ w_De_12) (by decide +kernel), ?_⟩
  refine List.forall_mem_cons.mpr ⟨am_iload_ok X (by decide +kernel), ?_⟩
  refine List.forall_mem_cons.mpr ⟨am_bipush_ok X (by decide +kernel) (by decide), ?_⟩
  refine List.forall_mem_cons.mpr ⟨am_callV_ok (C := R_Po) (T := F_Po) (N := 4) (idx := 126) X rfl (am_GV m_De_126 v_Po_squaredDistance.1 v_Po_squaredDistance.2.1 v_Po_squaredDistance.2.2.1 v_Po_squaredDistance.2.2.2) ⟨rfl, v_Po_squaredDistanced⟩ ⟨by decide, by decide⟩ (Nat.zero_le _) (by decide +kernel), ?_⟩
  refine List.forall_mem_cons.mpr ⟨am_aload_n_ok (k := 0) X (by decide +kernel), ?_⟩
  refine List.forall_mem_cons.mpr ⟨am_get_ok (C := R_De) (T := F_De) (N := 7) (idx := 12) X rfl (by decide) (fun w h => List.mem_cons_of_mem _ (u_De w h)) (List.mem_cons_of_mem _ w_De_12) (by decide +kernel), ?_⟩
  refine List.forall_mem_cons.mpr ⟨am_iload_n_ok (k := 3) X (by decide +kernel), ?_⟩
  refine List.forall_mem_cons.mpr ⟨am_bipush_ok X (by decide +kernel) (by decide), ?_⟩
  refine List.forall_mem_cons.mpr ⟨am_callV_ok (C := R_Po) (T := F_Po) (N := 4) (idx := 126) X rfl (am_GV m_De_126 v_Po_squaredDistance.1 v_Po_squaredDistance.2.1 v_Po_squaredDistance.2.2.1 v_Po_squaredDistance.2.2.2) ⟨rfl, v_Po_squaredDistanced⟩ ⟨by decide, by decide⟩ (Nat.zero_le _) (by decide +kernel), ?_⟩
  refine List.forall_mem_cons.mpr ⟨am_lcmp_ge_ok (off := 6) X (by decide +kernel) (by decide +kernel) (by decide), ?_⟩
  refine List.forall_mem_cons.mpr ⟨am_iload_ok X (by decide +kernel), ?_⟩
  refine List.forall_mem_cons.mpr ⟨am_istore_n_ok (k := 3) X (by decide) (by decide +kernel), ?_⟩
  refine List.forall_mem_cons.mpr ⟨am_iinc_ok X (by decide) (by decide +kernel), ?_⟩
  refine List.forall_mem_cons.mpr ⟨am_goto_ok (off := -43) X (by decide +kernel) (by decide), ?_⟩
  refine List.forall_mem_cons.mpr ⟨am_iload_n_ok (k := 3) X (by decide +kernel), ?_⟩
  refine List.forall_mem_cons.mpr ⟨am_ret_ok X hr (by decide +kernel), ?_⟩
  exact fun _ h => absurd h List.not_mem_nil
