/-! printed: tables of the methods -/
abbrev b_Mo_stop : AT := [(0, am_ald 0 1), (1, am_ic 0 1), (2, am_put am_Y 9 0), (5, am_ald 0 1), (6, am_get am_Y 9 5), (9, am_ist 1 1), (10, am_ald 0 1), (11, am_ic 0 1), (12, am_put am_Y 9 5), (15, am_ild 1 1), (16, am_ret)]
set_option maxRecDepth 100000 in
set_option maxHeartbeats 4000000 in
theorem T_Mo_stop : am_T am_Y am_cl am_Gw am_mi 130 b_Mo_stop := by
  intro E A p l e s m args below meth c Rt X hr
  refine List.forall_mem_cons.mpr ⟨am_aload_n_ok (k := 0) X (by decide +kernel), ?_⟩
  refine List.forall_mem_cons.mpr ⟨am_iconst_ok X (by decide +kernel), ?_⟩
  refine List.forall_mem_cons.mpr ⟨am_put_ok (C := R_Mo) (T := F_Mo) (N := 13) (idx := 39) X rfl (by decide) (fun w h => List.mem_cons_of_mem _ (u_Mo w h)) t_Mo_ok n_Mo rfl (by decide +kernel) (List.mem_cons_of_mem _ w_Mo_39) (by decide +kernel), ?_⟩
  refine List.forall_mem_cons.mpr ⟨am_aload_n_ok (k := 0) X (by decide +kernel), ?_⟩
  refine List.forall_mem_cons.mpr ⟨am_get_ok (C := R_Mo) (T := F_Mo) (N := 13) (idx := 52) X rfl (by decide) (fun w h => List.mem_cons_of_mem _ (u_Mo w h)) (List.mem_cons_of_mem _ w_Mo_52) (by decide +kernel), ?_⟩
  refine List.forall_mem_cons.mpr ⟨am_istore_n_ok (k := 1) X (by decide) (by decide +kernel), ?_⟩
  refine List.forall_mem_cons.mpr ⟨am_aload_n_ok (k := 0) X (by decide +kernel), ?_⟩
  refine List.forall_mem_cons.mpr ⟨am_iconst_ok X (by decide +kernel), ?_⟩
  refine List.forall_mem_cons.mpr ⟨am_put_ok (C := R_Mo) (T := F_Mo) (N := 13) (idx := 52) X rfl (by decide) (fun w h => List.mem_cons_of_mem _ (u_Mo w h)) t_Mo_ok n_Mo rfl (by decide +kernel) (List.mem_cons_of_mem _ w_Mo_52) (by decide +kernel), ?_⟩
  refine List.forall_mem_cons.mpr ⟨am_iload_n_ok (k := 1) X (by decide +kernel), ?_⟩
  refine List.forall_mem_cons.mpr ⟨am_ret_ok X hr (by decide +kernel), ?_⟩
  exact fun _ h => absurd h List.not_mem_nil
abbrev b_Mo_place : AT := [(0, am_ald 0 1), (1, am_ic 0 1), (2, am_put am_Y 9 0), (5, am_ild 1 1), (6, am_if 2 26), (9, am_ild 1 1), (10, am_ald 0 1), (11, am_get am_Y 9 5), (14, am_icmp 3 26), (17, am_ald 0 1), (18, am_get am_Y 9 4), (21, am_ild 1 1), (22, am_iald am_Y), (23, am_goto 27), (26, am_ic (-1) 1), (27, am_ret)]
set_option maxRecDepth 100000 in
set_option maxHeartbeats 4000000 in
theorem T_Mo_place : am_T am_Y am_cl am_Gw am_mi 131 b_Mo_place := by
  intro E A p l e s m args below meth c Rt X hr
  refine List.forall_mem_cons.mpr ⟨am_aload_n_ok (k := 0) X (by decide +kernel), ?_⟩
  refine List.forall_mem_cons.mpr ⟨am_iconst_ok X (by decide +kernel), ?_⟩
  refine List.forall_mem_cons.mpr ⟨am_put_ok (C := R_Mo) (T := F_Mo) (N := 13) (idx := 39) X rfl (by decide) (fun w h => List.mem_cons_of_mem _ (u_Mo w h)) t_Mo_ok n_Mo rfl (by decide +kernel) (List.mem_cons_of_mem _ w_Mo_39) (by decide +kernel), ?_⟩
  refine List.forall_mem_cons.mpr ⟨am_iload_n_ok (k := 1) X (by decide +kernel), ?_⟩
  refine List.forall_mem_cons.mpr ⟨am_if_lt_ok (off := 20) X (by decide +kernel) (by decide), ?_⟩
  refine List.forall_mem_cons.mpr ⟨am_iload_n_ok (k := 1) X (by decide +kernel), ?_⟩
  refine List.forall_mem_cons.mpr ⟨am_aload_n_ok (k := 0) X (by decide +kernel), ?_⟩
  refine List.forall_mem_cons.mpr ⟨am_get_ok (C := R_Mo) (T := F_Mo) (N := 13) (idx := 52) X rfl (by decide) (fun w h => List.mem_cons_of_mem _ (u_Mo w h)) (List.mem_cons_of_mem _ w_Mo_52) (by decide +kernel), ?_⟩
  refine List.forall_mem_cons.mpr ⟨am_icmp_ge_ok (off := 12) X (by decide +kernel) (by decide), ?_⟩
  refine List.forall_mem_cons.mpr ⟨am_aload_n_ok (k := 0) X (by decide +kernel), ?_⟩
  refine List.forall_mem_cons.mpr ⟨am_get_ok (C := R_Mo) (T := F_Mo) (N := 13) (idx := 16) X rfl (by decide) (fun w h => List.mem_cons_of_mem _ (u_Mo w h)) (List.mem_cons_of_mem _ w_Mo_16) (by decide +kernel), ?_⟩
  refine List.forall_mem_cons.mpr ⟨am_iload_n_ok (k := 1) X (by decide +kernel), ?_⟩
  refine List.forall_mem_cons.mpr ⟨am_iald_ok X am_Y0 (by decide +kernel), ?_⟩
  refine List.forall_mem_cons.mpr ⟨am_goto_ok (off := 4) X (by decide +kernel) (by decide), ?_⟩
  refine List.forall_mem_cons.mpr ⟨am_iconst_ok X (by decide +kernel), ?_⟩
  refine List.forall_mem_cons.mpr ⟨am_ret_ok X hr (by decide +kernel), ?_⟩
  exact fun _ h => absurd h List.not_mem_nil
abbrev b_Mo_turn : AT := [(0, am_ald 0 1), (1, am_ild 1 1), (2, am_if 2 22), (5, am_ild 1 1), (6, am_ild 2 1), (7, am_icmp 4 22), (10, am_ild 2 1), (11, am_ald 0 1), (12, am_get am_Y 9 5), (15, am_icmp 3 22), (18, am_ic 0 1), (19, am_goto 23), (22, am_ic 1 1), (23, am_put am_Y 9 0), (26, am_ic 0 1), (27, am_ist 3 1), (28, am_ald 0 1), (29, am_get am_Y 9 0), (32, am_if 1 86), (35, am_ic 2 1), (36, am_ild 3 1), (37, am_imul), (38, am_ild 2 1), (39, am_ild 1 1), (40, am_isub), (41, am_icmp 3 86), (44, am_ald 0 1), (45, am_get am_Y 9 4), (48, am_ild 1 1), (49, am_ild 3 1), (50, am_iadd), (51, am_iald am_Y), (52, am_ist 4 2), (54, am_ald 0 1), (55, am_get am_Y 9 4), (58, am_ild 1 1), (59, am_ild 3 1), (60, am_iadd), (61, am_ald 0 1), (62, am_get am_Y 9 4), (65, am_ild 2 1), (66, am_ild 3 1), (67, am_isub), (68, am_iald am_Y), (69, am_iast am_Y), (70, am_ald 0 1), (71, am_get am_Y 9 4), (74, am_ild 2 1), (75, am_ild 3 1), (76, am_isub), (77, am_ild 4 2), (79, am_iast am_Y), (80, am_inc 3 (1)), (83, am_goto 28), (86, am_vret)]
set_option maxRecDepth 100000 in
set_option maxHeartbeats 4000000 in
theorem T_Mo_turn : am_T am_Y am_cl am_Gw am_mi 132 b_Mo_turn := by
  intro E A p l e s m args below meth c Rt X hr
  refine List.forall_mem_cons.mpr ⟨am_aload_n_ok (k := 0) X (by decide +kernel), ?_⟩
  refine List.forall_mem_cons.mpr ⟨am_iload_n_ok (k := 1) X (by decide +kernel), ?_⟩
  refine List.forall_mem_cons.mpr ⟨am_if_lt_ok (off := 20) X (by decide +kernel) (by decide), ?_⟩
  refine List.forall_mem_cons.mpr ⟨am_iload_n_ok (k := 1) X (by decide +kernel), ?_⟩
  refine List.forall_mem_cons.mpr ⟨am_iload_n_ok (k := 2) X (by decide +kernel), ?_⟩
  refine List.forall_mem_cons.mpr ⟨am_icmp_gt_ok (off := 15) X (by decide +kernel) (by decide), ?_⟩
  refine List.forall_mem_cons.mpr ⟨am_iload_n_ok (k := 2) X (by decide +kernel), ?_⟩
  refine List.forall_mem_cons.mpr ⟨am_aload_n_ok (k := 0) X (by decide +kernel), ?_⟩
  refine List.forall_mem_cons.mpr ⟨am_get_ok (C := R_Mo) (T := F_Mo) (N := 13) (idx := 52) X rfl (by decide) (fun w h => List.mem_cons_of_mem _ (u_Mo w h)) (List.mem_cons_of_mem _ w_Mo_52) (by decide +kernel), ?_⟩
  refine List.forall_mem_cons.mpr ⟨am_icmp_ge_ok (off := 7) X (by decide +kernel) (by decide), ?_⟩
  refine List.forall_mem_cons.mpr ⟨am_iconst_ok X (by decide +kernel), ?_⟩
  refine List.forall_mem_cons.mpr ⟨am_goto_ok (off := 4) X (by decide +kernel) (by decide), ?_⟩
  refine List.forall_mem_cons.mpr ⟨am_iconst_ok X (by decide +kernel), ?_⟩
  refine List.forall_mem_cons.mpr ⟨am_put_ok (C := R_Mo) (T := F_Mo) (N := 13) (idx := 39) X rfl (by decide) (fun w h => List.mem_cons_of_mem _ (u_Mo w h)) t_Mo_ok n_Mo rfl (by decide +kernel) (List.mem_cons_of_mem _ w_Mo_39) (by decide +kernel), ?_⟩
  refine List.forall_mem_cons.mpr ⟨am_iconst_ok X (by decide +kernel), ?_⟩
  refine List.forall_mem_cons.mpr ⟨am_istore_n_ok (k := 3) X (by decide) (by decide +kernel), ?_⟩
  refine List.forall_mem_cons.mpr ⟨am_aload_n_ok (k := 0) X (by decide +kernel), ?_⟩
  refine List.forall_mem_cons.mpr ⟨am_get_ok (C := R_Mo) (T := F_Mo) (N := 13) (idx := 39) X rfl (by decide) (fun w h => List.mem_cons_of_mem _ (u_Mo w h)) (List.mem_cons_of_mem _ w_Mo_39) (by decide +kernel), ?_⟩
  refine List.forall_mem_cons.mpr ⟨am_if_ne_ok (off := 54) X (by decide +kernel) (by decide), ?_⟩
  refine List.forall_mem_cons.mpr ⟨am_iconst_ok X (by decide +kernel), ?_⟩
  refine List.forall_mem_cons.mpr ⟨am_iload_n_ok (k := 3) X (by decide +kernel), ?_⟩
  refine List.forall_mem_cons.mpr ⟨am_imul_ok X (by decide +kernel), ?_⟩
  refine List.forall_mem_cons.mpr ⟨am_iload_n_ok (k := 2) X (by decide +kernel), ?_⟩
  refine List.forall_mem_cons.mpr ⟨am_iload_n_ok (k := 1) X (by decide +kernel), ?_⟩
  refine List.forall_mem_cons.mpr ⟨am_isub_ok X (by decide +kernel), ?_⟩
  refine List.forall_mem_cons.mpr ⟨am_icmp_ge_ok (off := 45) X (by decide +kernel) (by decide), ?_⟩
  refine List.forall_mem_cons.mpr ⟨am_aload_n_ok (k := 0) X (by decide +kernel), ?_⟩
  refine List.forall_mem_cons.mpr ⟨am_get_ok (C := R_Mo) (T := F_Mo) (N := 13) (idx := 16) X rfl (by decide) (fun w h => List.mem_cons_of_mem _ (u_Mo w h)) (List.mem_cons_of_mem _ w_Mo_16) (by decide +kernel), ?_⟩
  refine List.forall_mem_cons.mpr ⟨am_iload_n_ok (k := 1) X (by decide +kernel), ?_⟩
  refine List.forall_mem_cons.mpr ⟨am_iload_n_ok (k := 3) X (by decide +kernel), ?_⟩
  refine List.forall_mem_cons.mpr ⟨am_iadd_ok X (by decide +kernel), ?_⟩
  refine List.forall_mem_cons.mpr ⟨am_iald_ok X am_Y0 (by decide +kernel), ?_⟩
  refine List.forall_mem_cons.mpr ⟨am_istore_ok X (by decide) (by decide +kernel), ?_⟩
  refine List.forall_mem_cons.mpr ⟨am_aload_n_ok (k := 0) X (by decide +kernel), ?_⟩
  refine List.forall_mem_cons.mpr ⟨am_get_ok (C := R_Mo) (T := F_Mo) (N := 13) (idx := 16) X rfl (by decide) (fun w h => List.mem_cons_of_mem _ (u_Mo w h)) (List.mem_cons_of_mem _ w_Mo_16) (by decide +kernel), ?_⟩
  refine List.forall_mem_cons.mpr ⟨am_iload_n_ok (k := 1) X (by decide +kernel), ?_⟩
  refine List.forall_mem_cons.mpr ⟨am_iload_n_ok (k := 3) X (by decide +kernel), ?_⟩
  refine List.forall_mem_cons.mpr ⟨am_iadd_ok X (by decide +kernel), ?_⟩
  refine List.forall_mem_cons.mpr ⟨am_aload_n_ok (k := 0) X (by decide +kernel), ?_⟩
  refine List.forall_mem_cons.mpr ⟨am_get_ok (C := R_Mo) (T := F_Mo) (N := 13) (idx := 16) X rfl (by decide) (fun w h => List.mem_cons_of_mem _ (u_Mo w h)) (List.mem_cons_of_mem _ w_Mo_16) (by decide +kernel), ?_⟩
  refine List.forall_mem_cons.mpr ⟨am_iload_n_ok (k := 2) X (by decide +kernel), ?_⟩
  refine List.forall_mem_cons.mpr ⟨am_iload_n_ok (k := 3) X (by decide +kernel), ?_⟩
  refine List.forall_mem_cons.mpr ⟨am_isub_ok X (by decide +kernel), ?_⟩
  refine List.forall_mem_cons.mpr ⟨am_iald_ok X am_Y0 (by decide +kernel), ?_⟩
  refine List.forall_mem_cons.mpr ⟨am_iast_ok X am_Y0 (by decide +kernel), ?_⟩
  refine List.forall_mem_cons.mpr ⟨am_aload_n_ok (k := 0) X (by decide +kernel), ?_⟩
  refine List.forall_mem_cons.mpr ⟨am_get_ok (C := R_Mo) (T := F_Mo) (N := 13) (idx := 16) X rfl (by decide) (fun w h => List.mem_cons_of_mem _ (u_Mo w h)) (List.mem_cons_of_mem _ w_Mo_16) (by decide +kernel), ?_⟩
  refine List.forall_mem_cons.mpr ⟨am_iload_n_ok (k := 2) X (by decide +kernel), ?_⟩
  refine List.forall_mem_cons.mpr ⟨am_iload_n_ok (k := 3) X (by decide +kernel), ?_⟩
  refine List.forall_mem_cons.mpr ⟨am_isub_ok X (by decide +kernel), ?_⟩
  refine List.forall_mem_cons.mpr ⟨am_iload_ok X (by decide +kernel), ?_⟩
  refine List.forall_mem_cons.mpr ⟨am_iast_ok X am_Y0 (by decide +kernel), ?_⟩
  refine List.forall_mem_cons.mpr ⟨am_iinc_ok X (by decide) (by decide +kernel), ?_⟩
  refine List.forall_mem_cons.mpr ⟨am_goto_ok (off := -55) X (by decide +kernel) (by decide), ?_⟩
  refine List.forall_mem_cons.mpr ⟨am_vret_ok X hr (by decide +kernel), ?_⟩
  exact fun _ h => absurd h List.not_mem_nil
abbrev b_Mo_behind : AT := [(0, am_ild 1 1), (1, am_ic 1 1), (2, am_iadd), (3, am_ald 0 1), (4, am_get am_Y 9 5), (7, am_icmp 1 14), (10, am_ic 0 1), (11, am_goto 17), (14, am_ild 1 1), (15, am_ic 1 1), (16, am_iadd), (17, am_ret)]
set_option maxRecDepth 100000 in
set_option maxHeartbeats 4000000 in
theorem T_Mo_behind : am_T am_Y am_cl am_Gw am_mi 133 b_Mo_behind := by
  intro E A p l e s m args below meth c Rt X hr
  refine List.forall_mem_cons.mpr ⟨am_iload_n_ok (k := 1) X (by decide +kernel), ?_⟩
  refine List.forall_mem_cons.mpr ⟨am_iconst_ok X (by decide +kernel), ?_⟩
  refine List.forall_mem_cons.mpr ⟨am_iadd_ok X (by decide +kernel), ?_⟩
  refine List.forall_mem_cons.mpr ⟨am_aload_n_ok (k := 0) X (by decide +kernel), ?_⟩
  refine List.forall_mem_cons.mpr ⟨am_get_ok (C := R_Mo) (T := F_Mo) (N := 13) (idx := 52) X rfl (by decide) (fun w h => List.mem_cons_of_mem _ (u_Mo w h)) (List.mem_cons_of_mem _ w_Mo_52) (by decide +kernel), ?_⟩
  refine List.forall_mem_cons.mpr ⟨am_icmp_ne_ok (off := 7) X (by decide +kernel) (by decide), ?_⟩
  refine List.forall_mem_cons.mpr ⟨am_iconst_ok X (by decide +kernel), ?_⟩
  refine List.forall_mem_cons.mpr ⟨am_goto_ok (off := 6) X (by decide +kernel) (by decide), ?_⟩
  refine List.forall_mem_cons.mpr ⟨am_iload_n_ok (k := 1) X (by decide +kernel), ?_⟩
  refine List.forall_mem_cons.mpr ⟨am_iconst_ok X (by decide +kernel), ?_⟩
  refine List.forall_mem_cons.mpr ⟨am_iadd_ok X (by decide +kernel), ?_⟩
  refine List.forall_mem_cons.mpr ⟨am_ret_ok X hr (by decide +kernel), ?_⟩
  exact fun _ h => absurd h List.not_mem_nil
abbrev b_Mo_doMeet : AT := [(0, am_ild 0 1), (1, am_ild 1 1), (2, am_icmp 3 9), (5, am_ild 0 1), (6, am_goto 10), (9, am_ild 1 1), (10, am_ist 4 2), (12, am_ild 0 1), (13, am_ild 1 1), (14, am_icmp 3 21), (17, am_ild 1 1), (18, am_goto 22), (21, am_ild 0 1), (22, am_ist 5 2), (24, am_ild 2 1), (25, am_ild 3 1), (26, am_icmp 3 33), (29, am_ild 2 1), (30, am_goto 34), (33, am_ild 3 1), (34, am_ist 6 2), (36, am_ild 2 1), (37, am_ild 3 1), (38, am_icmp 3 45), (41, am_ild 3 1), (42, am_goto 46), (45, am_ild 2 1), (46, am_ist 7 2), (48, am_ild 4 2), (50, am_ild 7 2), (52, am_icmp 4 66), (55, am_ild 6 2), (57, am_ild 5 2), (59, am_icmp 4 66), (62, am_ic 1 1), (63, am_goto 67), (66, am_ic 0 1), (67, am_zret)]
set_option maxRecDepth 100000 in
set_option maxHeartbeats 4000000 in
theorem T_Mo_doMeet : am_T am_Y am_cl am_Gw am_mi 134 b_Mo_doMeet := by
  intro E A p l e s m args below meth c Rt X hr
  refine List.forall_mem_cons.mpr ⟨am_iload_n_ok (k := 0) X (by decide +kernel), ?_⟩
  refine List.forall_mem_cons.mpr ⟨am_iload_n_ok (k := 1) X (by decide +kernel), ?_⟩
  refine List.forall_mem_cons.mpr ⟨am_icmp_ge_ok (off := 7) X (by decide +kernel) (by decide), ?_⟩
  refine List.forall_mem_cons.mpr ⟨am_iload_n_ok (k := 0) X (by decide +kernel), ?_⟩
  refine List.forall_mem_cons.mpr ⟨am_goto_ok (off := 4) X (by decide +kernel) (by decide), ?_⟩
  refine List.forall_mem_cons.mpr ⟨am_iload_n_ok (k := 1) X (by decide +kernel), ?_⟩
  refine List.forall_mem_cons.mpr ⟨am_istore_ok X (by decide) (by decide +kernel), ?_⟩
  refine List.forall_mem_cons.mpr ⟨am_iload_n_ok (k := 0) X (by decide +kernel), ?_⟩
  refine List.forall_mem_cons.mpr ⟨am_iload_n_ok (k := 1) X (by decide +kernel), ?_⟩
  refine List.forall_mem_cons.mpr ⟨am_icmp_ge_ok (off := 7) X (by decide +kernel) (by decide), ?_⟩
  refine List.forall_mem_cons.mpr ⟨am_iload_n_ok (k := 1) X (by decide +kernel), ?_⟩
  refine List.forall_mem_cons.mpr ⟨am_goto_ok (off := 4) X (by decide +kernel) (by decide), ?_⟩
  refine List.forall_mem_cons.mpr ⟨am_iload_n_ok (k := 0) X (by decide +kernel), ?_⟩
  refine List.forall_mem_cons.mpr ⟨am_istore_ok X (by decide) (by decide +kernel), ?_⟩
  refine List.forall_mem_cons.mpr ⟨am_iload_n_ok (k := 2) X (by decide +kernel), ?_⟩
  refine List.forall_mem_cons.mpr ⟨am_iload_n_ok (k := 3) X (by decide +kernel), ?_⟩
  refine List.forall_mem_cons.mpr ⟨am_icmp_ge_ok (off := 7) X (by decide +kernel) (by decide), ?_⟩
  refine List.forall_mem_cons.mpr ⟨am_iload_n_ok (k := 2) X (by decide +kernel), ?_⟩
  refine List.forall_mem_cons.mpr ⟨am_goto_ok (off := 4) X (by decide +kernel) (by decide), ?_⟩
  refine List.forall_mem_cons.mpr ⟨am_iload_n_ok (k := 3) X (by decide +kernel), ?_⟩
  refine List.forall_mem_cons.mpr ⟨am_istore_ok X (by decide) (by decide +kernel), ?_⟩
  refine List.forall_mem_cons.mpr ⟨am_iload_n_ok (k := 2) X (by decide +kernel), ?_⟩
  refine List.forall_mem_cons.mpr ⟨am_iload_n_ok (k := 3) X (by decide +kernel), ?_⟩
  refine List.forall_mem_cons.mpr ⟨am_icmp_ge_ok (off := 7) X (by decide +kernel) (by decide), ?_⟩
  refine List.forall_mem_cons.mpr ⟨am_iload_n_ok (k := 3) X (by decide +kernel), ?_⟩
  refine List.forall_mem_cons.mpr ⟨am_goto_ok (off := 4) X (by decide +kernel) (by decide), ?_⟩
  refine List.forall_mem_cons.mpr ⟨am_iload_n_ok (k := 2) X (by decide +kernel), ?_⟩
  refine List.forall_mem_cons.mpr ⟨am_istore_ok X (by decide) (by decide +kernel), ?_⟩
  refine List.forall_mem_cons.mpr ⟨am_iload_ok X (by decide +kernel), ?_⟩
  refine List.forall_mem_cons.mpr ⟨am_iload_ok X (by decide +kernel), ?_⟩
  refine List.forall_mem_cons.mpr ⟨am_icmp_gt_ok (off := 14) X (by decide +kernel) (by decide), ?_⟩
  refine List.forall_mem_cons.mpr ⟨am_iload_ok X (by decide +kernel), ?_⟩
  refine List.forall_mem_cons.mpr ⟨am_iload_ok X (by decide +kernel), ?_⟩
  refine List.forall_mem_cons.mpr ⟨am_icmp_gt_ok (off := 7) X (by decide +kernel) (by decide), ?_⟩
  refine List.forall_mem_cons.mpr ⟨am_iconst_ok X (by decide +kernel), ?_⟩
  refine List.forall_mem_cons.mpr ⟨am_goto_ok (off := 4) X (by decide +kernel) (by decide), ?_⟩
  refine List.forall_mem_cons.mpr ⟨am_iconst_ok X (by decide +kernel), ?_⟩
  refine List.forall_mem_cons.mpr ⟨am_zret_ok X hr (by decide +kernel), ?_⟩
  exact fun _ h => absurd h List.not_mem_nil
abbrev b_Mo_doShare : AT := [(0, am_ald 0 1), (1, am_get am_Y 9 1), (4, am_ild 1 1), (5, am_iald am_Y), (6, am_ald 0 1), (7, am_get am_Y 9 1), (10, am_ild 2 1), (11, am_iald am_Y), (12, am_ald 0 1), (13, am_get am_Y 9 1), (16, am_ild 3 1), (17, am_iald am_Y), (18, am_ald 0 1), (19, am_get am_Y 9 1), (22, am_ild 4 2), (24, am_iald am_Y), (25, am_callS 134 4), (28, am_if 0 66), (31, am_ald 0 1), (32, am_get am_Y 9 2), (35, am_ild 1 1), (36, am_iald am_Y), (37, am_ald 0 1), (38, am_get am_Y 9 2), (41, am_ild 2 1), (42, am_iald am_Y), (43, am_ald 0 1), (44, am_get am_Y 9 2), (47, am_ild 3 1), (48, am_iald am_Y), (49, am_ald 0 1), (50, am_get am_Y 9 2), (53, am_ild 4 2), (55, am_iald am_Y), (56, am_callS 134 4), (59, am_if 0 66), (62, am_ic 1 1), (63, am_goto 67), (66, am_ic 0 1), (67, am_ist 5 2), (69, am_ild 5 2), (71, am_if 0 129), (74, am_ald 0 1), (75, am_ild 1 1), (76, am_ild 2 1), (77, am_ild 3 1), (78, am_callV am_Y 9 96 3), (81, am_callS 127 1), (84, am_ald 0 1), (85, am_ild 1 1), (86, am_ild 2 1), (87, am_ild 4 2), (89, am_callV am_Y 9 96 3), (92, am_callS 127 1), (95, am_imul), (96, am_if 4 129), (99, am_ald 0 1), (100, am_ild 3 1), (101, am_ild 4 2), (103, am_ild 1 1), (104, am_callV am_Y 9 96 3), (107, am_callS 127 1), (110, am_ald 0 1), (111, am_ild 3 1), (112, am_ild 4 2), (114, am_ild 2 1), (115, am_callV am_Y 9 96 3), (118, am_callS 127 1), (121, am_imul), (122, am_if 4 129), (125, am_ic 1 1), (126, am_goto 130), (129, am_ic 0 1), (130, am_zret)]
set_option maxRecDepth 100000 in
set_option maxHeartbeats 4000000 in
theorem T_Mo_doShare : am_T am_Y am_cl am_Gw am_mi 135 b_Mo_doShare := by
  intro E A p l e s m args below meth c Rt X hr
  refine List.forall_mem_cons.mpr ⟨am_aload_n_ok (k := 0) X (by decide +kernel), ?_⟩
  refine List.forall_mem_cons.mpr ⟨am_get_ok (C := R_Mo) (T := F_Mo) (N := 13) (idx := 7) X rfl (by decide) (fun w h => List.mem_cons_of_mem _ (u_Mo w h)) (List.mem_cons_of_mem _ w_Mo_7) (by decide +kernel), ?_⟩
  refine List.forall_mem_cons.mpr ⟨am_iload_n_ok (k := 1) X (by decide +kernel), ?_⟩
  refine List.forall_mem_cons.mpr ⟨am_iald_ok X am_Y0 (by decide +kernel), ?_⟩
  refine List.forall_mem_cons.mpr ⟨am_aload_n_ok (k := 0) X (by decide +kernel), ?_⟩
  refine List.forall_mem_cons.mpr ⟨am_get_ok (C := R_Mo) (T := F_Mo) (N := 13) (idx := 7) X rfl (by decide) (fun w h => List.mem_cons_of_mem _ (u_Mo w h)) (List.mem_cons_of_mem _ w_Mo_7) (by decide +kernel), ?_⟩
  refine List.forall_mem_cons.mpr ⟨am_iload_n_ok (k := 2) X (by decide +kernel), ?_⟩
  refine List.forall_mem_cons.mpr ⟨am_iald_ok X am_Y0 (by decide +kernel), ?_⟩
  refine List.forall_mem_cons.mpr ⟨am_aload_n_ok (k := 0) X (by decide +kernel), ?_⟩
  refine List.forall_mem_cons.mpr ⟨am_get_ok (C := R_Mo) (T := F_Mo) (N := 13) (idx := 7) X rfl (by decide) (fun w h => List.mem_cons_of_mem _ (u_Mo w h)) (List.mem_cons_of_mem _ w_Mo_7) (by decide +kernel), ?_⟩
  refine List.forall_mem_cons.mpr ⟨am_iload_n_ok (k := 3) X (by decide +kernel), ?_⟩
  refine List.forall_mem_cons.mpr ⟨am_iald_ok X am_Y0 (by decide +kernel), ?_⟩
  refine List.forall_mem_cons.mpr ⟨am_aload_n_ok (k := 0) X (by decide +kernel), ?_⟩
  refine List.forall_mem_cons.mpr ⟨am_get_ok (C := R_Mo) (T := F_Mo) (N := 13) (idx := 7) X rfl (by decide) (fun w h => List.mem_cons_of_mem _ (u_Mo w h)) (List.mem_cons_of_mem _ w_Mo_7) (by decide +kernel), ?_⟩
  refine List.forall_mem_cons.mpr ⟨am_iload_ok X (by decide +kernel), ?_⟩
  refine List.forall_mem_cons.mpr ⟨am_iald_ok X am_Y0 (by decide +kernel), ?_⟩
  refine List.forall_mem_cons.mpr ⟨am_callS_ok (idx := 141) X (am_GS m_Mo_141 v_Mo_doMeet.1 v_Mo_doMeet.2.1 v_Mo_doMeet.2.2) ⟨rfl, v_Mo_doMeetd⟩ ⟨by decide, by decide⟩ (by decide +kernel), ?_⟩
  refine List.forall_mem_cons.mpr ⟨am_if_eq_ok (off := 38) X (by decide +kernel) (by decide), ?_⟩
  refine List.forall_mem_cons.mpr ⟨am_aload_n_ok (k := 0) X (by decide +kernel), ?_⟩
  refine List.forall_mem_cons.mpr ⟨am_get_ok (C := R_Mo) (T := F_Mo) (N := 13) (idx := 13) X rfl (by decide) (fun w h => List.mem_cons_of_mem _ (u_Mo w h)) (List.mem_cons_of_mem _ w_Mo_13) (by decide +kernel), ?_⟩
  refine List.forall_mem_cons.mpr ⟨am_iload_n_ok (k := 1) X (by decide +kernel), ?_⟩
  refine List.forall_mem_cons.mpr ⟨am_iald_ok X am_Y0 (by decide +kernel), ?_⟩
  refine List.forall_mem_cons.mpr ⟨am_aload_n_ok (k := 0) X (by decide +kernel), ?_⟩
  refine List.forall_mem_cons.mpr ⟨am_get_ok (C := R_Mo) (T := F_Mo) (N := 13) (idx := 13) X rfl (by decide) (fun w h => List.mem_cons_of_mem _ (u_Mo w h)) (List.mem_cons_of_mem _ w_Mo_13) (by decide +kernel), ?_⟩
  refine List.forall_mem_cons.mpr ⟨am_iload_n_ok (k := 2) X (by decide +kernel), ?_⟩
  refine List.forall_mem_cons.mpr ⟨am_iald_ok X am_Y0 (by decide +kernel), ?_⟩
  refine List.forall_mem_cons.mpr ⟨am_aload_n_ok (k := 0) X (by decide +kernel), ?_⟩
  refine List.forall_mem_cons.mpr ⟨am_get_ok (C := R_Mo) (T := F_Mo) (N := 13) (idx := 13) X rfl (by decide) (fun w h => List.mem_cons_of_mem _ (u_Mo w h)) (List.mem_cons_of_mem _ w_Mo_13) (by decide +kernel), ?_⟩
  refine List.forall_mem_cons.mpr ⟨am_iload_n_ok (k := 3) X (by decide +kernel), ?_⟩
  refine List.forall_mem_cons.mpr ⟨am_iald_ok X am_Y0 (by decide +kernel), ?_⟩
  refine List.forall_mem_cons.mpr ⟨am_aload_n_ok (k := 0) X (by decide +kernel), ?_⟩
  refine List.forall_mem_cons.mpr ⟨am_get_ok (C := R_Mo) (T := F_Mo) (N := 13) (idx := 13) X rfl (by decide) (fun w h => List.mem_cons_of_mem _ (u_Mo w h)) (List.mem_cons_of_mem _ w_Mo_13) (by decide +kernel), ?_⟩
  refine List.forall_mem_cons.mpr ⟨am_iload_ok X (by decide +kernel), ?_⟩
  refine List.forall_mem_cons.mpr ⟨am_iald_ok X am_Y0 (by decide +kernel), ?_⟩
  refine List.forall_mem_cons.mpr ⟨am_callS_ok (idx := 141) X (am_GS m_Mo_141 v_Mo_doMeet.1 v_Mo_doMeet.2.1 v_Mo_doMeet.2.2) ⟨rfl, v_Mo_doMeetd⟩ ⟨by decide, by decide⟩ (by decide +kernel), ?_⟩
  refine List.forall_mem_cons.mpr ⟨am_if_eq_ok (off := 7) X (by decide +kernel) (by decide), ?_⟩
  refine List.forall_mem_cons.mpr ⟨am_iconst_ok X (by decide +kernel), ?_⟩
  refine List.forall_mem_cons.mpr ⟨am_goto_ok (off := 4) X (by decide +kernel) (by decide), ?_⟩
  refine List.forall_mem_cons.mpr ⟨am_iconst_ok X (by decide +kernel), ?_⟩
  refine List.forall_mem_cons.mpr ⟨am_istore_ok X (by decide) (by decide +kernel), ?_⟩
  refine List.forall_mem_cons.mpr ⟨am_iload_ok X (by decide +kernel), ?_⟩
  refine List.forall_mem_cons.mpr ⟨am_if_eq_ok (off := 58) X (by decide +kernel) (by decide), ?_⟩
  refine List.forall_mem_cons.mpr ⟨am_aload_n_ok (k := 0) X (by decide +kernel), ?_⟩
  refine List.forall_mem_cons.mpr ⟨am_iload_n_ok (k := 1) X (by decide +kernel), ?_⟩
  refine List.forall_mem_cons.mpr ⟨am_iload_n_ok (k := 2) X (by decide +kernel), ?_⟩
  refine List.forall_mem_cons.mpr ⟨am_iload_n_ok (k := 3) X (by decide +kernel), ?_⟩
  refine List.forall_mem_cons.mpr ⟨am_callV_ok (C := R_Mo) (T := F_Mo) (N := 13) (idx := 76) X rfl (am_GV m_Mo_76 v_Mo_turnOf.1 v_Mo_turnOf.2.1 v_Mo_turnOf.2.2.1 v_Mo_turnOf.2.2.2) ⟨rfl, v_Mo_turnOfd⟩ ⟨by decide, by decide⟩ (Nat.zero_le _) (by decide +kernel), ?_⟩
  refine List.forall_mem_cons.mpr ⟨am_callS_ok (idx := 137) X (am_GS m_Mo_137 v_Mo_signOf.1 v_Mo_signOf.2.1 v_Mo_signOf.2.2) ⟨rfl, v_Mo_signOfd⟩ ⟨by decide, by decide⟩ (by decide +kernel), ?_⟩
  refine List.forall_mem_cons.mpr ⟨am_aload_n_ok (k := 0) X (by decide +kernel), ?_⟩
  refine List.forall_mem_cons.mpr ⟨am_iload_n_ok (k := 1) X (by decide +kernel), ?_⟩
  refine List.forall_mem_cons.mpr ⟨am_iload_n_ok (k := 2) X (by decide +kernel), ?_⟩
  refine List.forall_mem_cons.mpr ⟨am_iload_ok X (by decide +kernel), ?_⟩
  refine List.forall_mem_cons.mpr ⟨am_callV_ok (C := R_Mo) (T := F_Mo) (N := 13) (idx := 76) X rfl (am_GV m_Mo_76 v_Mo_turnOf.1 v_Mo_turnOf.2.1 v_Mo_turnOf.2.2.1 v_Mo_turnOf.2.2.2) ⟨rfl, v_Mo_turnOfd⟩ ⟨by decide, by decide⟩ (Nat.zero_le _) (by decide +kernel), ?_⟩
  refine List.forall_mem_cons.mpr ⟨am_callS_ok (idx := 137) X (am_GS m_Mo_137 v_Mo_signOf.1 v_Mo_signOf.2.1 v_Mo_signOf.2.2) ⟨rfl, v_Mo_signOfd⟩ ⟨by decide, by decide⟩ (by decide +kernel), ?_⟩
  refine List.forall_mem_cons.mpr ⟨am_imul_ok X (by decide +kernel), ?_⟩
  refine List.forall_mem_cons.mpr ⟨am_if_gt_ok (off := 33) X (by decide +kernel) (by decide), ?_⟩
  refine List.forall_mem_cons.mpr ⟨am_aload_n_ok (k := 0) X (by decide +kernel), ?_⟩
  refine List.forall_mem_cons.mpr ⟨am_iload_n_ok (k := 3) X (by decide +kernel), ?_⟩
  refine List.forall_mem_cons.mpr ⟨am_iload_ok X (by decide +kernel), ?_⟩
  refine List.forall_mem_cons.mpr ⟨am_iload_n_ok (k := 1) X (by decide +kernel), ?_⟩
  refine List.forall_mem_cons.mpr ⟨am_callV_ok (C := R_Mo) (T := F_Mo) (N := 13) (idx := 76) X rfl (am_GV m_Mo_76 v_Mo_turnOf.1 v_Mo_turnOf.2.1 v_Mo_turnOf.2.2.1 v_Mo_turnOf.2.2.2) ⟨rfl, v_Mo_turnOfd⟩ ⟨by decide, by decide⟩ (Nat.zero_le _) (by decide +kernel), ?_⟩
  refine List.forall_mem_cons.mpr ⟨am_callS_ok (idx := 137) X (am_GS m_Mo_137 v_Mo_signOf.1 v_Mo_signOf.2.1 v_Mo_signOf.2.2) ⟨rfl, v_Mo_signOfd⟩ ⟨by decide, by decide⟩ (by decide +kernel), ?_⟩
  refine List.forall_mem_cons.mpr ⟨am_aload_n_ok (k := 0) X (by decide +kernel), ?_⟩
  refine List.forall_mem_cons.mpr ⟨am_iload_n_ok (k := 3) X (by decide +kernel), ?_⟩
  refine List.forall_mem_cons.mpr ⟨am_iload_ok X (by decide +kernel), ?_⟩
  refine List.forall_mem_cons.mpr ⟨am_iload_n_ok (k := 2) X (by decide +kernel), ?_⟩
  refine List.forall_mem_cons.mpr ⟨am_callV_ok (C := R_Mo) (T := F_Mo) (N := 13) (idx := 76) X rfl (am_GV m_Mo_76 v_Mo_turnOf.1 v_Mo_turnOf.2.1 v_Mo_turnOf.2.2.1 v_Mo_turnOf.2.2.2) ⟨rfl, v_Mo_turnOfd⟩ ⟨by decide, by decide⟩ (Nat.zero_le _) (by decide +kernel), ?_⟩
  refine List.forall_mem_cons.mpr ⟨am_callS_ok (idx := 137) X (am_GS m_Mo_137 v_Mo_signOf.1 v_Mo_signOf.2.1 v_Mo_signOf.2.2) ⟨rfl, v_Mo_signOfd⟩ ⟨by decide, by decide⟩ (by decide +kernel), ?_⟩
  refine List.forall_mem_cons.mpr ⟨am_imul_ok X (by decide +kernel), ?_⟩
  refine List.forall_mem_cons.mpr ⟨am_if_gt_ok (off := 7) X (by decide +kernel) (by decide), ?_⟩
  refine List.forall_mem_cons.mpr ⟨am_iconst_ok X (by decide +kernel), ?_⟩
  refine List.forall_mem_cons.mpr ⟨am_goto_ok (off := 4) X (by decide +kernel) (by decide), ?_⟩
  refine List.forall_mem_cons.mpr ⟨am_iconst_ok X (by decide +kernel), ?_⟩
  refine List.forall_mem_cons.mpr ⟨am_zret_ok X hr (by decide +kernel), ?_⟩
  exact fun _ h => absurd h List.not_mem_nil
abbrev b_Mo_doOverlap : AT := [(0, am_ald 0 1), (1, am_ild 1 1), (2, am_ild 2 1), (3, am_callV am_Y 9 98 2), (6, am_if 1 30), (9, am_ald 0 1), (10, am_ild 2 1), (11, am_ild 3 1), (12, am_ald 0 1), (13, am_get am_Y 9 1), (16, am_ild 1 1), (17, am_iald am_Y), (18, am_ald 0 1), (19, am_get am_Y 9 2), (22, am_ild 1 1), (23, am_iald am_Y), (24, am_callV am_Y 9 100 4), (27, am_if 1 60), (30, am_ald 0 1), (31, am_ild 3 1), (32, am_ild 2 1), (33, am_callV am_Y 9 98 2), (36, am_if 1 64), (39, am_ald 0 1), (40, am_ild 1 1), (41, am_ild 2 1), (42, am_ald 0 1), (43, am_get am_Y 9 1), (46, am_ild 3 1), (47, am_iald am_Y), (48, am_ald 0 1), (49, am_get am_Y 9 2), (52, am_ild 3 1), (53, am_iald am_Y), (54, am_callV am_Y 9 100 4), (57, am_if 0 64), (60, am_ic 1 1), (61, am_goto 65), (64, am_ic 0 1), (65, am_zret)]
set_option maxRecDepth 100000 in
set_option maxHeartbeats 4000000 in
theorem T_Mo_doOverlap : am_T am_Y am_cl am_Gw am_mi 136 b_Mo_doOverlap := by
  intro E A p l e s m args below meth c Rt X hr
  refine List.forall_mem_cons.mpr ⟨am_aload_n_ok (k := 0) X (by decide +kernel), ?_⟩
  refine List.forall_mem_cons.mpr ⟨am_iload_n_ok (k := 1) X (by decide +kernel), ?_⟩
  refine List.forall_mem_cons.mpr ⟨am_iload_n_ok (k := 2) X (by decide +kernel), ?_⟩
  refine List.forall_mem_cons.mpr ⟨am_callV_ok (C := R_Mo) (T := F_Mo) (N := 13) (idx := 70) X rfl (am_GV m_Mo_70 v_Mo_isSame.1 v_Mo_isSame.2.1 v_Mo_isSame.2.2.1 v_Mo_isSame.2.2.2) ⟨rfl, v_Mo_isSamed⟩ ⟨by decide, by decide⟩ (Nat.zero_le _) (by decide +kernel), ?_⟩
  refine List.forall_mem_cons.mpr ⟨am_if_ne_ok (off := 24) X (by decide +kernel) (by decide), ?_⟩
  refine List.forall_mem_cons.mpr ⟨am_aload_n_ok (k := 0) X (by decide +kernel), ?_⟩
  refine List.forall_mem_cons.mpr ⟨am_iload_n_ok (k := 2) X (by decide +kernel), ?_⟩
  refine List.forall_mem_cons.mpr ⟨am_iload_n_ok (k := 3) X (by decide +kernel), ?_⟩
  refine List.forall_mem_cons.mpr ⟨am_aload_n_ok (k := 0) X (by decide +kernel), ?_⟩
  refine List.forall_mem_cons.mpr ⟨am_get_ok (C := R_Mo) (T := F_Mo) (N := 13) (idx := 7) X rfl (by decide) (fun w h => List.mem_cons_of_mem _ (u_Mo w h)) (List.mem_cons_of_mem _ w_Mo_7) (by decide +kernel), ?_⟩
  refine List.forall_mem_cons.mpr ⟨am_iload_n_ok (k := 1) X (by decide +kernel), ?_⟩
  refine List.forall_mem_cons.mpr ⟨am_iald_ok X am_Y0 (by decide +kernel), ?_⟩
  refine List.forall_mem_cons.mpr ⟨am_aload_n_ok (k := 0) X (by decide +kernel), ?_⟩
  refine List.forall_mem_cons.mpr ⟨am_get_ok (C := R_Mo) (T := F_Mo) (N := 13) (idx := 13) X rfl (by decide) (fun w h => List.mem_cons_of_mem _ (u_Mo w h)) (List.mem_cons_of_mem _ w_Mo_13) (by decide +kernel), ?_⟩
  refine List.forall_mem_cons.mpr ⟨am_iload_n_ok (k := 1) X (by decide +kernel), ?_⟩
  refine List.forall_mem_cons.mpr ⟨am_iald_ok X am_Y0 (by decide +kernel), ?_⟩
  refine List.forall_mem_cons.mpr ⟨am_callV_ok (C := R_Mo) (T := F_Mo) (N := 13) (idx := 83) X rfl (am_GV m_Mo_83 v_Mo_isOn.1 v_Mo_isOn.2.1 v_Mo_isOn.2.2.1 v_Mo_isOn.2.2.2) ⟨rfl, v_Mo_isOnd⟩ ⟨by decide, by decide⟩ (Nat.zero_le _) (by decide +kernel), ?_⟩
  refine List.forall_mem_cons.mpr ⟨am_if_ne_ok (off := 33) X (by decide +kernel) (by decide), ?_⟩
  refine List.forall_mem_cons.mpr ⟨am_aload_n_ok (k := 0) X (by decide +kernel), ?_⟩
  refine List.forall_mem_cons.mpr ⟨am_iload_n_ok (k := 3) X (by decide +kernel), ?_⟩
  refine List.forall_mem_cons.mpr ⟨am_iload_n_ok (k := 2) X (by decide +kernel), ?_⟩
  refine List.forall_mem_cons.mpr ⟨am_callV_ok (C := R_Mo) (T := F_Mo) (N := 13) (idx := 70) X rfl (am_GV m_Mo_70 v_Mo_isSame.1 v_Mo_isSame.2.1 v_Mo_isSame.2.2.1 v_Mo_isSame.2.2.2) ⟨rfl, v_Mo_isSamed⟩ ⟨by decide, by decide⟩ (Nat.zero_le _) (by decide +kernel), ?_⟩
  refine List.forall_mem_cons.mpr ⟨am_if_ne_ok (off := 28) X (by decide +kernel) (by decide), ?_⟩
  refine List.forall_mem_cons.mpr ⟨am_aload_n_ok (k := 0) X (by decide +kernel), ?_⟩
  refine List.forall_mem_cons.mpr ⟨am_iload_n_ok (k := 1) X (by decide +kernel), ?_⟩
  refine List.forall_mem_cons.mpr ⟨am_iload_n_ok (k := 2) X (by decide +kernel), ?_⟩
  refine List.forall_mem_cons.mpr ⟨am_aload_n_ok (k := 0) X (by decide +kernel), ?_⟩
  refine List.forall_mem_cons.mpr ⟨am_get_ok (C := R_Mo) (T := F_Mo) (N := 13) (idx := 7) X rfl (by decide) (fun w h => List.mem_cons_of_mem _ (u_Mo w h)) (List.mem_cons_of_mem _ w_Mo_7) (by decide +kernel), ?_⟩
  refine List.forall_mem_cons.mpr ⟨am_iload_n_ok (k := 3) X (by decide +kernel), ?_⟩
  refine List.forall_mem_cons.mpr ⟨am_iald_ok X am_Y0 (by decide +kernel), ?_⟩
  refine List.forall_mem_cons.mpr ⟨am_aload_n_ok (k := 0) X (by decide +kernel), ?_⟩
  refine List.forall_mem_cons.mpr ⟨am_get_ok (C := R_Mo) (T := F_Mo) (N := 13) (idx := 13) X rfl (by decide) (fun w h => List.mem_cons_of_mem _ (u_Mo w h)) (List.mem_cons_of_mem _ w_Mo_13) (by decide +kernel), ?_⟩
  refine List.forall_mem_cons.mpr ⟨am_iload_n_ok (k := 3) X (by decide +kernel), ?_⟩
  refine List.forall_mem_cons.mpr ⟨am_iald_ok X am_Y0 (by decide +kernel), ?_⟩
  refine List.forall_mem_cons.mpr ⟨am_callV_ok (C := R_Mo) (T := F_Mo) (N := 13) (idx := 83) X rfl (am_GV m_Mo_83 v_Mo_isOn.1 v_Mo_isOn.2.1 v_Mo_isOn.2.2.1 v_Mo_isOn.2.2.2) ⟨rfl, v_Mo_isOnd⟩ ⟨by decide, by decide⟩ (Nat.zero_le _) (by decide +kernel), ?_⟩
  refine List.forall_mem_cons.mpr ⟨am_if_eq_ok (off := 7) X (by decide +kernel) (by decide), ?_⟩
  refine List.forall_mem_cons.mpr ⟨am_iconst_ok X (by decide +kernel), ?_⟩
  refine List.forall_mem_cons.mpr ⟨am_goto_ok (off := 4) X (by decide +kernel) (by decide), ?_⟩
  refine List.forall_mem_cons.mpr ⟨am_iconst_ok X (by decide +kernel), ?_⟩
  refine List.forall_mem_cons.mpr ⟨am_zret_ok X hr (by decide +kernel), ?_⟩
  exact fun _ h => absurd h List.not_mem_nil
abbrev b_Mo_doCross : AT := [(0, am_ald 0 1), (1, am_get am_Y 9 4), (4, am_ild 1 1), (5, am_iald am_Y), (6, am_ist 3 1), (7, am_ald 0 1), (8, am_get am_Y 9 4), (11, am_ald 0 1), (12, am_ild 1 1), (13, am_callV am_Y 9 133 1), (16, am_iald am_Y), (17, am_ist 4 2), (19, am_ald 0 1), (20, am_get am_Y 9 4), (23, am_ild 2 1), (24, am_iald am_Y), (25, am_ist 5 2), (27, am_ald 0 1), (28, am_get am_Y 9 4), (31, am_ald 0 1), (32, am_ild 2 1), (33, am_callV am_Y 9 133 1), (36, am_iald am_Y), (37, am_ist 6 2), (39, am_ald 0 1), (40, am_ild 1 1), (41, am_callV am_Y 9 133 1), (44, am_ild 2 1), (45, am_icmp 1 60), (48, am_ald 0 1), (49, am_ild 3 1), (50, am_ild 4 2), (52, am_ild 6 2), (54, am_callV am_Y 9 136 3), (57, am_goto 93), (60, am_ald 0 1), (61, am_ild 2 1), (62, am_callV am_Y 9 133 1), (65, am_ild 1 1), (66, am_icmp 1 82), (69, am_ald 0 1), (70, am_ild 5 2), (72, am_ild 6 2), (74, am_ild 4 2), (76, am_callV am_Y 9 136 3), (79, am_goto 93), (82, am_ald 0 1), (83, am_ild 3 1), (84, am_ild 4 2), (86, am_ild 5 2), (88, am_ild 6 2), (90, am_callV am_Y 9 135 4), (93, am_zret)]
set_option maxRecDepth 100000 in
set_option maxHeartbeats 4000000 in
theorem T_Mo_doCross : am_T am_Y am_cl am_Gw am_mi 137 b_Mo_doCross := by
  intro E A p l e s m args below meth c Rt X hr
  refine List.forall_mem_cons.mpr ⟨am_aload_n_ok (k := 0) X (by decide +kernel), ?_⟩
  refine List.forall_mem_cons.mpr ⟨am_get_ok (C := R_Mo) (T := F_Mo) (N := 13) (idx := 16) X rfl (by decide) (fun w h => List.mem_cons_of_mem _ (u_Mo w h)) (List.mem_cons_of_mem _ w_Mo_16) (by decide +kernel), ?_⟩
  refine List.forall_mem_cons.mpr ⟨am_iload_n_ok (k := 1) X (by decide +kernel), ?_⟩
  refine List.forall_mem_cons.mpr ⟨am_iald_ok X am_Y0 (by decide +kernel), ?_⟩
  refine List.forall_mem_cons.mpr ⟨am_istore_n_ok (k := 3) X (by decide) (by decide +kernel), ?_⟩
  refine List.forall_mem_cons.mpr ⟨am_aload_n_ok (k := 0) X (by decide +kernel), ?_⟩
  refine List.forall_mem_cons.mpr ⟨am_get_ok (C := R_Mo) (T := F_Mo) (N := 13) (idx := 16) X rfl (by decide) (fun w h => List.mem_cons_of_mem _ (u_Mo w h)) (List.mem_cons_of_mem _ w_Mo_16) (by decide +kernel), ?_⟩
  refine List.forall_mem_cons.mpr ⟨am_aload_n_ok (k := 0) X (by decide +kernel), ?_⟩
  refine List.forall_mem_cons.mpr ⟨am_iload_n_ok (k := 1) X (by decide +kernel), ?_⟩
  refine List.forall_mem_cons.mpr ⟨am_callV_ok (C := R_Mo) (T := F_Mo) (N := 13) (idx := 144) X rfl (am_GV m_Mo_144 v_Mo_behind.1 v_Mo_behind.2.1 v_Mo_behind.2.2.1 v_Mo_behind.2.2.2) ⟨rfl, v_Mo_behindd⟩ ⟨by decide, by decide⟩ (Nat.zero_le _) (by decide +kernel), ?_⟩
  refine List.forall_mem_cons.mpr ⟨am_iald_ok X am_Y0 (by decide +kernel), ?_⟩
  refine List.forall_mem_cons.mpr ⟨am_istore_ok X (by decide) (by decide +kernel), ?_⟩
  refine List.forall_mem_cons.mpr ⟨am_aload_n_ok (k := 0) X (by decide +kernel), ?_⟩
  refine List.forall_mem_cons.mpr ⟨am_get_ok (C := R_Mo) (T := F_Mo) (N := 13) (idx := 16) X rfl (by decide) (fun w h => List.mem_cons_of_mem _ (u_Mo w h)) (List.mem_cons_of_mem _ w_Mo_16) (by decide +kernel), ?_⟩
  refine List.forall_mem_cons.mpr ⟨am_iload_n_ok (k := 2) X (by decide +kernel), ?_⟩
  refine List.forall_mem_cons.mpr ⟨am_iald_ok X am_Y0 (by decide +kernel), ?_⟩
  refine List.forall_mem_cons.mpr ⟨am_istore_ok X (by decide) (by decide +kernel), ?_⟩
  refine List.forall_mem_cons.mpr ⟨am_aload_n_ok (k := 0) X (by decide +kernel), ?_⟩
  refine List.forall_mem_cons.mpr ⟨am_get_ok (C := R_Mo) (T := F_Mo) (N := 13) (idx := 16) X rfl (by decide) (fun w h => List.mem_cons_of_mem _ (u_Mo w h)) (List.mem_cons_of_mem _ w_Mo_16) (by decide +kernel), ?_⟩
  refine List.forall_mem_cons.mpr ⟨am_aload_n_ok (k := 0) X (by decide +kernel), ?_⟩
  refine List.forall_mem_cons.mpr ⟨am_iload_n_ok (k := 2) X (by decide +kernel), ?_⟩
  refine List.forall_mem_cons.mpr ⟨am_callV_ok (C := R_Mo) (T := F_Mo) (N := 13) (idx := 144) X rfl (am_GV m_Mo_144 v_Mo_behind.1 v_Mo_behind.2.1 v_Mo_behind.2.2.1 v_Mo_behind.2.2.2) ⟨rfl, v_Mo_behindd⟩ ⟨by decide, by decide⟩ (Nat.zero_le _) (by decide +kernel), ?_⟩
  refine List.forall_mem_cons.mpr ⟨am_iald_ok X am_Y0 (by decide +kernel), ?_⟩
  refine List.forall_mem_cons.mpr ⟨am_istore_ok X (by decide) (by decide +kernel), ?_⟩
  refine List.forall_mem_cons.mpr ⟨am_aload_n_ok (k := 0) X (by decide +kernel), ?_⟩
  refine List.forall_mem_cons.mpr ⟨am_iload_n_ok (k := 1) X (by decide +kernel), ?_⟩
  refine List.forall_mem_cons.mpr ⟨am_callV_ok (C := R_Mo) (T := F_Mo) (N := 13) (idx := 144) X rfl (am_GV m_Mo_144 v_Mo_behind.1 v_Mo_behind.2.1 v_Mo_behind.2.2.1 v_Mo_behind.2.2.2) ⟨rfl, v_Mo_behindd⟩ ⟨by decide, by decide⟩ (Nat.zero_le _) (by decide +kernel), ?_⟩
  refine List.forall_mem_cons.mpr ⟨am_iload_n_ok (k := 2) X (by decide +kernel), ?_⟩
  refine List.forall_mem_cons.mpr ⟨am_icmp_ne_ok (off := 15) X (by decide +kernel) (by decide), ?_⟩
  refine List.forall_mem_cons.mpr ⟨am_aload_n_ok (k := 0) X (by decide +kernel), ?_⟩
  refine List.forall_mem_cons.mpr ⟨am_iload_n_ok (k := 3) X (by decide +kernel), ?_⟩
  refine List.forall_mem_cons.mpr ⟨am_iload_ok X (by decide +kernel), ?_⟩
  refine List.forall_mem_cons.mpr ⟨am_iload_ok X (by decide +kernel), ?_⟩
  refine List.forall_mem_cons.mpr ⟨am_callV_ok (C := R_Mo) (T := F_Mo) (N := 13) (idx := 147) X rfl (am_GV m_Mo_147 v_Mo_doOverlap.1 v_Mo_doOverlap.2.1 v_Mo_doOverlap.2.2.1 v_Mo_doOverlap.2.2.2) ⟨rfl, v_Mo_doOverlapd⟩ ⟨by decide, by decide⟩ (Nat.zero_le _) (by decide +kernel), ?_⟩
  refine List.forall_mem_cons.mpr ⟨am_goto_ok (off := 36) X (by decide +kernel) (by decide), ?_⟩
  refine List.forall_mem_cons.mpr ⟨am_aload_n_ok (k := 0) X (by decide +kernel), ?_⟩
  refine List.forall_mem_cons.mpr ⟨am_iload_n_ok (k := 2) X (by decide +kernel), ?_⟩
  refine List.forall_mem_cons.mpr ⟨am_callV_ok (C := R_Mo) (T := F_Mo) (N := 13) (idx := 144) X rfl (am_GV m_Mo_144 v_Mo_behind.1 v_Mo_behind.2.1 v_Mo_behind.2.2.1 v_Mo_behind.2.2.2) ⟨rfl, v_Mo_behindd⟩ ⟨by decide, by decide⟩ (Nat.zero_le _) (by decide +kernel), ?_⟩
  refine List.forall_mem_cons.mpr ⟨am_iload_n_ok (k := 1) X (by decide +kernel), ?_⟩
  refine List.forall_mem_cons.mpr ⟨am_icmp_ne_ok (off := 16) X (by decide +kernel) (by decide), ?_⟩
  refine List.forall_mem_cons.mpr ⟨am_aload_n_ok (k := 0) X (by decide +kernel), ?_⟩
  refine List.forall_mem_cons.mpr ⟨am_iload_ok X (by decide +kernel), ?_⟩
  refine List.forall_mem_cons.mpr ⟨am_iload_ok X (by decide +kernel), ?_⟩
  refine List.forall_mem_cons.mpr ⟨am_iload_ok X (by decide +kernel), ?_⟩
  refine List.forall_mem_cons.mpr ⟨am_callV_ok (C := R_Mo) (T := F_Mo) (N := 13) (idx := 147) X rfl (am_GV m_Mo_147 v_Mo_doOverlap.1 v_Mo_doOverlap.2.1 v_Mo_doOverlap.2.2.1 v_Mo_doOverlap.2.2.2) ⟨rfl, v_Mo_doOverlapd⟩ ⟨by decide, by decide⟩ (Nat.zero_le _) (by decide +kernel), ?_⟩
  refine List.forall_mem_cons.mpr ⟨am_goto_ok (off := 14) X (by decide +kernel) (by decide), ?_⟩
  refine List.forall_mem_cons.mpr ⟨am_aload_n_ok (k := 0) X (by decide +kernel), ?_⟩
  refine List.forall_mem_cons.mpr ⟨am_iload_n_ok (k := 3) X (by decide +kernel), ?_⟩
  refine List.forall_mem_cons.mpr ⟨am_iload_ok X (by decide +kernel), ?_⟩
  refine List.forall_mem_cons.mpr ⟨am_iload_ok X (by decide +kernel), ?_⟩
  refine List.forall_mem_cons.mpr ⟨am_iload_ok X (by decide +kernel), ?_⟩
  refine List.forall_mem_cons.mpr ⟨am_callV_ok (C := R_Mo) (T := F_Mo) (N := 13) (idx := 150) X rfl (am_GV m_Mo_150 v_Mo_doShare.1 v_Mo_doShare.2.1 v_Mo_doShare.2.2.1 v_Mo_doShare.2.2.2) ⟨rfl, v_Mo_doShared⟩ ⟨by decide, by decide⟩ (Nat.zero_le _) (by decide +kernel), ?_⟩
  refine List.forall_mem_cons.mpr ⟨am_zret_ok X hr (by decide +kernel), ?_⟩
  exact fun _ h => absurd h List.not_mem_nil
abbrev b_Mo_crossings : AT := [(0, am_ald 0 1), (1, am_ic 0 1), (2, am_put am_Y 9 0), (5, am_ic 0 1), (6, am_ist 1 1), (7, am_ic 0 1), (8, am_ist 2 1), (9, am_ild 2 1), (10, am_ald 0 1), (11, am_get am_Y 9 5), (14, am_icmp 3 66), (17, am_ald 0 1), (18, am_get am_Y 9 5), (21, am_ic 2 1), (22, am_icmp 5 66), (25, am_ild 2 1), (26, am_ic 1 1), (27, am_iadd), (28, am_ist 3 1), (29, am_ild 3 1), (30, am_ald 0 1), (31, am_get am_Y 9 5), (34, am_icmp 3 60), (37, am_ald 0 1), (38, am_ild 2 1), (39, am_ild 3 1), (40, am_callV am_Y 9 137 2), (43, am_if 0 52), (46, am_ild 1 1), (47, am_ic 1 1), (48, am_iadd), (49, am_goto 53), (52, am_ild 1 1), (53, am_ist 1 1), (54, am_inc 3 (1)), (57, am_goto 29), (60, am_inc 2 (1)), (63, am_goto 9), (66, am_ild 1 1), (67, am_ret)]
set_option maxRecDepth 100000 in
set_option maxHeartbeats 4000000 in
theorem T_Mo_crossings : am_T am_Y am_cl am_Gw am_mi 138 b_Mo_crossings := by
  intro E A p l e s m args below meth c Rt X hr
  refine List.forall_mem_cons.mpr ⟨am_aload_n_ok (k := 0) X (by decide +kernel), ?_⟩
  refine List.forall_mem_cons.mpr ⟨am_iconst_ok X (by decide +kernel), ?_⟩
  refine List.forall_mem_cons.mpr ⟨am_put_ok (C := R_Mo) (T := F_Mo) (N := 13) (idx := 39) X rfl (by decide) (fun w h => List.mem_cons_of_mem _ (u_Mo w h)) t_Mo_ok n_Mo rfl (by decide +kernel) (List.mem_cons_of_mem _ w_Mo_39) (by decide +kernel), ?_⟩
  refine List.forall_mem_cons.mpr ⟨am_iconst_ok X (by decide +kernel), ?_⟩
  refine List.forall_mem_cons.mpr ⟨am_istore_n_ok (k := 1) X (by decide) (by decide +kernel), ?_⟩
  refine List.forall_mem_cons.mpr ⟨am_iconst_ok X (by decide +kernel), ?_⟩
  refine List.forall_mem_cons.mpr ⟨am_istore_n_ok (k := 2) X (by decide) (by decide +kernel), ?_⟩
  refine List.forall_mem_cons.mpr ⟨am_iload_n_ok (k := 2) X (by decide +kernel), ?_⟩
  refine List.forall_mem_cons.mpr ⟨am_aload_n_ok (k := 0) X (by decide +kernel), ?_⟩
  refine List.forall_mem_cons.mpr ⟨am_get_ok (C := R_Mo) (T := F_Mo) (N := 13) (idx := 52) X rfl (by decide) (fun w h => List.mem_cons_of_mem _ (u_Mo w h)) (List.mem_cons_of_mem _ w_Mo_52) (by decide +kernel), ?_⟩
  refine List.forall_mem_cons.mpr ⟨am_icmp_ge_ok (off := 52) X (by decide +kernel) (by decide), ?_⟩
  refine List.forall_mem_cons.mpr ⟨am_aload_n_ok (k := 0) X (by decide +kernel), ?_⟩
  refine List.forall_mem_cons.mpr ⟨am_get_ok (C := R_Mo) (T := F_Mo) (N := 13) (idx := 52) X rfl (by decide) (fun w h => List.mem_cons_of_mem _ (u_Mo w h)) (List.mem_cons_of_mem _ w_Mo_52) (by decide +kernel), ?_⟩
  refine List.forall_mem_cons.mpr ⟨am_iconst_ok X (by decide +kernel), ?_⟩
  refine List.forall_mem_cons.mpr ⟨am_icmp_le_ok (off := 44) X (by decide +kernel) (by decide), ?_⟩
  refine List.forall_mem_cons.mpr ⟨am_iload_n_ok (k := 2) X (by decide +kernel), ?_⟩
  refine List.forall_mem_cons.mpr ⟨am_iconst_ok X (by decide +kernel), ?_⟩
  refine List.forall_mem_cons.mpr ⟨am_iadd_ok X (by decide +kernel), ?_⟩
  refine List.forall_mem_cons.mpr ⟨am_istore_n_ok (k := 3) X (by decide) (by decide +kernel), ?_⟩
  refine List.forall_mem_cons.mpr ⟨am_iload_n_ok (k := 3) X (by decide +kernel), ?_⟩
  refine List.forall_mem_cons.mpr ⟨am_aload_n_ok (k := 0) X (by decide +kernel), ?_⟩
  refine List.forall_mem_cons.mpr ⟨am_get_ok (C := R_Mo) (T := F_Mo) (N := 13) (idx := 52) X rfl (by decide) (fun w h => List.mem_cons_of_mem _ (u_Mo w h)) (List.mem_cons_of_mem _ w_Mo_52) (by decide +kernel), ?_⟩
  refine List.forall_mem_cons.mpr ⟨am_icmp_ge_ok (off := 26) X (by decide +kernel) (by decide), ?_⟩
  refine List.forall_mem_cons.mpr ⟨am_aload_n_ok (k := 0) X (by decide +kernel), ?_⟩
  refine List.forall_mem_cons.mpr ⟨am_iload_n_ok (k := 2) X (by decide +kernel), ?_⟩
  refine List.forall_mem_cons.mpr ⟨am_iload_n_ok (k := 3) X (by decide +kernel), ?_⟩
  refine List.forall_mem_cons.mpr ⟨am_callV_ok (C := R_Mo) (T := F_Mo) (N := 13) (idx := 153) X rfl (am_GV m_Mo_153 v_Mo_doCross.1 v_Mo_doCross.2.1 v_Mo_doCross.2.2.1 v_Mo_doCross.2.2.2) ⟨rfl, v_Mo_doCrossd⟩ ⟨by decide, by decide⟩ (Nat.zero_le _) (by decide +kernel), ?_⟩
  refine List.forall_mem_cons.mpr ⟨am_if_eq_ok (off := 9) X (by decide +kernel) (by decide), ?_⟩
  refine List.forall_mem_cons.mpr ⟨am_iload_n_ok (k := 1) X (by decide +kernel), ?_⟩
  refine List.forall_mem_cons.mpr ⟨am_iconst_ok X (by decide +kernel), ?_⟩
  refine List.forall_mem_cons.mpr ⟨am_iadd_ok X (by decide +kernel), ?_⟩
  refine List.forall_mem_cons.mpr ⟨am_goto_ok (off := 4) X (by decide +kernel) (by decide), ?_⟩
  refine List.forall_mem_cons.mpr ⟨am_iload_n_ok (k := 1) X (by decide +kernel), ?_⟩
  refine List.forall_mem_cons.mpr ⟨am_istore_n_ok (k := 1) X (by decide) (by decide +kernel), ?_⟩
  refine List.forall_mem_cons.mpr ⟨am_iinc_ok X (by decide) (by decide +kernel), ?_⟩
  refine List.forall_mem_cons.mpr ⟨am_goto_ok (off := -28) X (by decide +kernel) (by decide), ?_⟩
  refine List.forall_mem_cons.mpr ⟨am_iinc_ok X (by decide) (by decide +kernel), ?_⟩
  refine List.forall_mem_cons.mpr ⟨am_goto_ok (off := -54) X (by decide +kernel) (by decide), ?_⟩
  refine List.forall_mem_cons.mpr ⟨am_iload_n_ok (k := 1) X (by decide +kernel), ?_⟩
  refine List.forall_mem_cons.mpr ⟨am_ret_ok X hr (by decide +kernel), ?_⟩
  exact fun _ h => absurd h List.not_mem_nil
abbrev b_Mo_crossing : AT := [(0, am_ald 0 1), (1, am_ic 0 1), (2, am_put am_Y 9 0), (5, am_ic 0 1), (6, am_ist 2 1), (7, am_ic 0 1), (8, am_ist 3 1), (9, am_ild 3 1), (10, am_ald 0 1), (11, am_get am_Y 9 5), (14, am_icmp 3 77), (17, am_ald 0 1), (18, am_get am_Y 9 5), (21, am_ic 2 1), (22, am_icmp 5 77), (25, am_ild 3 1), (26, am_ic 1 1), (27, am_iadd), (28, am_ist 4 2), (30, am_ild 4 2), (32, am_ald 0 1), (33, am_get am_Y 9 5), (36, am_icmp 3 71), (39, am_ald 0 1), (40, am_ild 3 1), (41, am_ild 4 2), (43, am_callV am_Y 9 137 2), (46, am_if 0 65), (49, am_ild 2 1), (50, am_ild 1 1), (51, am_icmp 1 62), (54, am_ic (64) 2), (56, am_ild 3 1), (57, am_imul), (58, am_ild 4 2), (60, am_iadd), (61, am_ret), (62, am_inc 2 (1)), (65, am_inc 4 (1)), (68, am_goto 30), (71, am_inc 3 (1)), (74, am_goto 9), (77, am_ic (-1) 1), (78, am_ret)]
set_option maxRecDepth 100000 in
set_option maxHeartbeats 4000000 in
theorem T_Mo_crossing : am_T am_Y am_cl am_Gw am_mi 139 b_Mo_crossing := by
  intro E A p l e s m args below meth c Rt X hr
  refine List.forall_mem_cons.mpr ⟨am_aload_n_ok (k := 0) X (by decide +kernel), ?_⟩
  refine List.forall_mem_cons.mpr ⟨am_iconst_ok X (by decide +kernel), ?_⟩
  refine List.forall_mem_cons.mpr ⟨am_put_ok (C := R_Mo) (T := F_Mo) (N := 13) (idx := 39) X rfl (by decide) (fun w h => List.mem_cons_of_mem _ (u_Mo w h)) t_Mo_ok n_Mo rfl (by decide +kernel) (List.mem_cons_of_mem _ w_Mo_39) (by decide +kernel), ?_⟩
  refine List.forall_mem_cons.mpr ⟨am_iconst_ok X (by decide +kernel), ?_⟩
  refine List.forall_mem_cons.mpr ⟨am_istore_n_ok (k := 2) X (by decide) (by decide +kernel), ?_⟩
  refine List.forall_mem_cons.mpr ⟨am_iconst_ok X (by decide +kernel), ?_⟩
  refine List.forall_mem_cons.mpr ⟨am_istore_n_ok (k := 3) X (by decide) (by decide +kernel), ?_⟩
  refine List.forall_mem_cons.mpr ⟨am_iload_n_ok (k := 3) X (by decide +kernel), ?_⟩
  refine List.forall_mem_cons.mpr ⟨am_aload_n_ok (k := 0) X (by decide +kernel), ?_⟩
  refine List.forall_mem_cons.mpr ⟨am_get_ok (C := R_Mo) (T := F_Mo) (N := 13) (idx := 52) X rfl (by decide) (fun w h => List.mem_cons_of_mem _ (u_Mo w h)) (List.mem_cons_of_mem _ w_Mo_52) (by decide +kernel), ?_⟩
  refine List.forall_mem_cons.mpr ⟨am_icmp_ge_ok (off := 63) X (by decide +kernel) (by decide), ?_⟩
  refine List.forall_mem_cons.mpr ⟨am_aload_n_ok (k := 0) X (by decide +kernel), ?_⟩
  refine List.forall_mem_cons.mpr ⟨am_get_ok (C := R_Mo) (T := F_Mo) (N := 13) (idx := 52) X rfl (by decide) (fun w h => List.mem_cons_of_mem _ (u_Mo w h)) (List.mem_cons_of_mem _ w_Mo_52) (by decide +kernel), ?_⟩
  refine List.forall_mem_cons.mpr ⟨am_iconst_ok X (by decide +kernel), ?_⟩
  refine List.forall_mem_cons.mpr ⟨am_icmp_le_ok (off := 55) X (by decide +kernel) (by decide), ?_⟩
  refine List.forall_mem_cons.mpr ⟨am_iload_n_ok (k := 3) X (by decide +kernel), ?_⟩
  refine List.forall_mem_cons.mpr ⟨am_iconst_ok X (by decide +kernel), ?_⟩
  refine List.forall_mem_cons.mpr ⟨am_iadd_ok X (by decide +kernel), ?_⟩
  refine List.forall_mem_cons.mpr ⟨am_istore_ok X (by decide) (by decide +kernel), ?_⟩
  refine List.forall_mem_cons.mpr ⟨am_iload_ok X (by decide +kernel), ?_⟩
  refine List.forall_mem_cons.mpr ⟨am_aload_n_ok (k := 0) X (by decide +kernel), ?_⟩
  refine List.forall_mem_cons.mpr ⟨am_get_ok (C := R_Mo) (T := F_Mo) (N := 13) (idx := 52) X rfl (by decide) (fun w h => List.mem_cons_of_mem _ (u_Mo w h)) (List.mem_cons_of_mem _ w_Mo_52) (by decide +kernel), ?_⟩
  refine List.forall_mem_cons.mpr ⟨am_icmp_ge_ok (off := 35) X (by decide +kernel) (by decide), ?_⟩
  refine List.forall_mem_cons.mpr ⟨am_aload_n_ok (k := 0) X (by decide +kernel), ?_⟩
  refine List.forall_mem_cons.mpr ⟨am_iload_n_ok (k := 3) X (by decide +kernel), ?_⟩
  refine List.forall_mem_cons.mpr ⟨am_iload_ok X (by decide +kernel), ?_⟩
  refine List.forall_mem_cons.mpr ⟨am_callV_ok (C := R_Mo) (T := F_Mo) (N := 13) (idx := 153) X rfl (am_GV m_Mo_153 v_Mo_doCross.1 v_Mo_doCross.2.1 v_Mo_doCross.2.2.1 v_Mo_doCross.2.2.2) ⟨rfl, v_Mo_doCrossd⟩ ⟨by decide, by decide⟩ (Nat.zero_le _) (by decide +kernel), ?_⟩
  refine List.forall_mem_cons.mpr ⟨am_if_eq_ok (off := 19) X (by decide +kernel) (by decide), ?_⟩
  refine List.forall_mem_cons.mpr ⟨am_iload_n_ok (k := 2) X (by decide +kernel), ?_⟩
  refine List.forall_mem_cons.mpr ⟨am_iload_n_ok (k := 1) X (by decide +kernel), ?_⟩
  refine List.forall_mem_cons.mpr ⟨am_icmp_ne_ok (off := 11) X (by decide +kernel) (by decide), ?_⟩
  refine List.forall_mem_cons.mpr ⟨am_bipush_ok X (by decide +kernel) (by decide), ?_⟩
  refine List.forall_mem_cons.mpr ⟨am_iload_n_ok (k := 3) X (by decide +kernel), ?_⟩
  refine List.forall_mem_cons.mpr ⟨am_imul_ok X (by decide +kernel), ?_⟩
  refine List.forall_mem_cons.mpr ⟨am_iload_ok X (by decide +kernel), ?_⟩
  refine List.forall_mem_cons.mpr ⟨am_iadd_ok X (by decide +kernel), ?_⟩
  refine List.forall_mem_cons.mpr ⟨am_ret_ok X hr (by decide +kernel), ?_⟩
  refine List.forall_mem_cons.mpr ⟨am_iinc_ok X (by decide) (by decide +kernel), ?_⟩
  refine List.forall_mem_cons.mpr ⟨am_iinc_ok X (by decide) (by decide +kernel), ?_⟩
  refine List.forall_mem_cons.mpr ⟨am_goto_ok (off := -38) X (by decide +kernel) (by decide), ?_⟩
  refine List.forall_mem_cons.mpr ⟨am_iinc_ok X (by decide) (by decide +kernel), ?_⟩
  refine List.forall_mem_cons.mpr ⟨am_goto_ok (off := -65) X (by decide +kernel) (by decide), ?_⟩
  refine List.forall_mem_cons.mpr ⟨am_iconst_ok X (by decide +kernel), ?_⟩
  refine List.forall_mem_cons.mpr ⟨am_ret_ok X hr (by decide +kernel), ?_⟩
  exact fun _ h => absurd h List.not_mem_nil
abbrev b_Mo_isSimple : AT := [(0, am_ald 0 1), (1, am_get am_Y 9 5), (4, am_ic 2 1), (5, am_icmp 5 12), (8, am_ic 1 1), (9, am_goto 13), (12, am_ic 0 1), (13, am_ist 1 1), (14, am_ic 0 1), (15, am_ist 2 1), (16, am_ild 2 1), (17, am_ald 0 1), (18, am_get am_Y 9 5), (21, am_icmp 3 90), (24, am_ild 1 1), (25, am_if 0 90), (28, am_ild 2 1), (29, am_ic 1 1), (30, am_iadd), (31, am_ist 3 1), (32, am_ild 3 1), (33, am_ald 0 1), (34, am_get am_Y 9 5), (37, am_icmp 3 84), (40, am_ild 1 1), (41, am_if 0 84), (44, am_ald 0 1), (45, am_ald 0 1), (46, am_get am_Y 9 4), (49, am_ild 2 1), (50, am_iald am_Y), (51, am_ald 0 1), (52, am_get am_Y 9 4), (55, am_ild 3 1), (56, am_iald am_Y), (57, am_callV am_Y 9 98 2), (60, am_if 1 76), (63, am_ald 0 1), (64, am_ild 2 1), (65, am_ild 3 1), (66, am_callV am_Y 9 137 2), (69, am_if 1 76), (72, am_ic 1 1), (73, am_goto 77), (76, am_ic 0 1), (77, am_ist 1 1), (78, am_inc 3 (1)), (81, am_goto 32), (84, am_inc 2 (1)), (87, am_goto 16), (90, am_ild 1 1), (91, am_zret)]
set_option maxRecDepth 100000 in
set_option maxHeartbeats 4000000 in
theorem T_Mo_isSimple : am_T am_Y am_cl am_Gw am_mi 140 b_Mo_isSimple := by
  intro E A p l e s m args below meth c Rt X hr
  refine List.forall_mem_cons.mpr ⟨am_aload_n_ok (k := 0) X (by decide +kernel), ?_⟩
  refine List.forall_mem_cons.mpr ⟨am_get_ok (C := R_Mo) (T := F_Mo) (N := 13) (idx := 52) X rfl (by decide) (fun w h => List.mem_cons_of_mem _ (u_Mo w h)) (List.mem_cons_of_mem _ w_Mo_52) (by decide +kernel), ?_⟩
  refine List.forall_mem_cons.mpr ⟨am_iconst_ok X (by decide +kernel), ?_⟩
  refine List.forall_mem_cons.mpr ⟨am_icmp_le_ok (off := 7) X (by decide +kernel) (by decide), ?_⟩
  refine List.forall_mem_cons.mpr ⟨am_iconst_ok X (by decide +kernel), ?_⟩
  refine List.forall_mem_cons.mpr ⟨am_goto_ok (off := 4) X (by decide +kernel) (by decide), ?_⟩
  refine List.forall_mem_cons.mpr ⟨am_iconst_ok X (by decide +kernel), ?_⟩
  refine List.forall_mem_cons.mpr ⟨am_istore_n_ok (k := 1) X (by decide) (by decide +kernel), ?_⟩
  refine List.forall_mem_cons.mpr ⟨am_iconst_ok X (by decide +kernel), ?_⟩
  refine List.forall_mem_cons.mpr ⟨am_istore_n_ok (k := 2) X (by decide) (by decide +kernel), ?_⟩
  refine List.forall_mem_cons.mpr ⟨am_iload_n_ok (k := 2) X (by decide +kernel), ?_⟩
  refine List.forall_mem_cons.mpr ⟨am_aload_n_ok (k := 0) X (by decide +kernel), ?_⟩
  refine List.forall_mem_cons.mpr ⟨am_get_ok (C := R_Mo) (T := F_Mo) (N := 13) (idx := 52) X rfl (by decide) (fun w h => List.mem_cons_of_mem _ (u_Mo w h)) (List.mem_cons_of_mem _ w_Mo_52) (by decide +kernel), ?_⟩
  refine List.forall_mem_cons.mpr ⟨am_icmp_ge_ok (off := 69) X (by decide +kernel) (by decide), ?_⟩
  refine List.forall_mem_cons.mpr ⟨am_iload_n_ok (k := 1) X (by decide +kernel), ?_⟩
  refine List.forall_mem_cons.mpr ⟨am_if_eq_ok (off := 65) X (by decide +kernel) (by decide), ?_⟩
  refine List.forall_mem_cons.mpr ⟨am_iload_n_ok (k := 2) X (by decide +kernel), ?_⟩
  refine List.forall_mem_cons.mpr ⟨am_iconst_ok X (by decide +kernel), ?_⟩
  refine List.forall_mem_cons.mpr ⟨am_iadd_ok X (by decide +kernel), ?_⟩
  refine List.forall_mem_cons.mpr ⟨am_istore_n_ok (k := 3) X (by decide) (by decide +kernel), ?_⟩
  refine List.forall_mem_cons.mpr ⟨am_iload_n_ok (k := 3) X (by decide +kernel), ?_⟩
  refine List.forall_mem_cons.mpr ⟨am_aload_n_ok (k := 0) X (by decide +kernel), ?_⟩
  refine List.forall_mem_cons.mpr ⟨am_get_ok (C := R_Mo) (T := F_Mo) (N := 13) (idx := 52) X rfl (by decide) (fun w h => List.mem_cons_of_mem _ (u_Mo w h)) (List.mem_cons_of_mem _ w_Mo_52) (by decide +kernel), ?_⟩
  refine List.forall_mem_cons.mpr ⟨am_icmp_ge_ok (off := 47) X (by decide +kernel) (by decide), ?_⟩
  refine List.forall_mem_cons.mpr ⟨am_iload_n_ok (k := 1) X (by decide +kernel), ?_⟩
  refine List.forall_mem_cons.mpr ⟨am_if_eq_ok (off := 43) X (by decide +kernel) (by decide), ?_⟩
  refine List.forall_mem_cons.mpr ⟨am_aload_n_ok (k := 0) X (by decide +kernel), ?_⟩
  refine List.forall_mem_cons.mpr ⟨am_aload_n_ok (k := 0) X (by decide +kernel), ?_⟩
  refine List.forall_mem_cons.mpr ⟨am_get_ok (C := R_Mo) (T := F_Mo) (N := 13) (idx := 16) X rfl (by decide) (fun w h => List.mem_cons_of_mem _ (u_Mo w h)) (List.mem_cons_of_mem _ w_Mo_16) (by decide +kernel), ?_⟩
  refine List.forall_mem_cons.mpr ⟨am_iload_n_ok (k := 2) X (by decide +kernel), ?_⟩
  refine List.forall_mem_cons.mpr ⟨am_iald_ok X am_Y0 (by decide +kernel), ?_⟩
  refine List.forall_mem_cons.mpr ⟨am_aload_n_ok (k := 0) X (by decide +kernel), ?_⟩
  refine List.forall_mem_cons.mpr ⟨am_get_ok (C := R_Mo) (T := F_Mo) (N := 13) (idx := 16) X rfl (by decide) (fun w h => List.mem_cons_of_mem _ (u_Mo w h)) (List.mem_cons_of_mem _ w_Mo_16) (by decide +kernel), ?_⟩
  refine List.forall_mem_cons.mpr ⟨am_iload_n_ok (k := 3) X (by decide +kernel), ?_⟩
  refine List.forall_mem_cons.mpr ⟨am_iald_ok X am_Y0 (by decide +kernel), ?_⟩
  refine List.forall_mem_cons.mpr ⟨am_callV_ok (C := R_Mo) (T := F_Mo) (N := 13) (idx := 70) X rfl (am_GV m_Mo_70 v_Mo_isSame.1 v_Mo_isSame.2.1 v_Mo_isSame.2.2.1 v_Mo_isSame.2.2.2) ⟨rfl, v_Mo_isSamed⟩ ⟨by decide, by decide⟩ (Nat.zero_le _) (by decide +kernel), ?_⟩
  refine List.forall_mem_cons.mpr ⟨am_if_ne_ok (off := 16) X (by decide +kernel) (by decide), ?_⟩
  refine List.forall_mem_cons.mpr ⟨am_aload_n_ok (k := 0) X (by decide +kernel), ?_⟩
  refine List.forall_mem_cons.mpr ⟨am_iload_n_ok (k := 2) X (by decide +kernel), ?_⟩
  refine List.forall_mem_cons.mpr ⟨am_iload_n_ok (k := 3) X (by decide +kernel), ?_⟩
  refine List.forall_mem_cons.mpr ⟨am_callV_ok (C := R_Mo) (T := F_Mo) (N := 13) (idx := 153) X rfl (am_GV m_Mo_153 v_Mo_doCross.1 v_Mo_doCross.2.1 v_Mo_doCross.2.2.1 v_Mo_doCross.2.2.2) ⟨rfl, v_Mo_doCrossd⟩ ⟨by decide, by decide⟩ (Nat.zero_le _) (by decide +kernel), ?_⟩
  refine List.forall_mem_cons.mpr ⟨am_if_ne_ok (off := 7) X (by decide +kernel) (by decide), ?_⟩
  refine List.forall_mem_cons.mpr ⟨am_iconst_ok X (by decide +kernel), ?_⟩
  refine List.forall_mem_cons.mpr ⟨am_goto_ok (off := 4) X (by decide +kernel) (by decide), ?_⟩
  refine List.forall_mem_cons.mpr ⟨am_iconst_ok X (by decide +kernel), ?_⟩
  refine List.forall_mem_cons.mpr ⟨am_istore_n_ok (k := 1) X (by decide) (by decide +kernel), ?_⟩
  refine List.forall_mem_cons.mpr ⟨am_iinc_ok X (by decide) (by decide +kernel), ?_⟩
  refine List.forall_mem_cons.mpr ⟨am_goto_ok (off := -49) X (by decide +kernel) (by decide), ?_⟩
  refine List.forall_mem_cons.mpr ⟨am_iinc_ok X (by decide) (by decide +kernel), ?_⟩
  refine List.forall_mem_cons.mpr ⟨am_goto_ok (off := -71) X (by decide +kernel) (by decide), ?_⟩
  refine List.forall_mem_cons.mpr ⟨am_iload_n_ok (k := 1) X (by decide +kernel), ?_⟩
  refine List.forall_mem_cons.mpr ⟨am_zret_ok X hr (by decide +kernel), ?_⟩
  exact fun _ h => absurd h List.not_mem_nil
abbrev b_Mo_simple : AT := [(0, am_ald 0 1), (1, am_ic 0 1), (2, am_put am_Y 9 0), (5, am_ald 0 1), (6, am_callV am_Y 9 140 0), (9, am_if 0 16), (12, am_ic 1 1), (13, am_goto 17), (16, am_ic 0 1), (17, am_ret)]
set_option maxRecDepth 100000 in
set_option maxHeartbeats 4000000 in
theorem T_Mo_simple : am_T am_Y am_cl am_Gw am_mi 141 b_Mo_simple := by
  intro E A p l e s m args below meth c Rt X hr
  refine List.forall_mem_cons.mpr ⟨am_aload_n_ok (k := 0) X (by decide +kernel), ?_⟩
  refine List.forall_mem_cons.mpr ⟨am_iconst_ok X (by decide +kernel), ?_⟩
  refine List.forall_mem_cons.mpr ⟨am_put_ok (C := R_Mo) (T := F_Mo) (N := 13) (idx := 39) X rfl (by decide) (fun w h => List.mem_cons_of_mem _ (u_Mo w h)) t_Mo_ok n_Mo rfl (by decide +kernel) (List.mem_cons_of_mem _ w_Mo_39) (by decide +kernel), ?_⟩
  refine List.forall_mem_cons.mpr ⟨am_aload_n_ok (k := 0) X (by decide +kernel), ?_⟩
  refine List.forall_mem_cons.mpr ⟨am_callV_ok (C := R_Mo) (T := F_Mo) (N := 13) (idx := 156) X rfl (am_GV m_Mo_156 v_Mo_isSimple.1 v_Mo_isSimple.2.1 v_Mo_isSimple.2.2.1 v_Mo_isSimple.2.2.2) ⟨rfl, v_Mo_isSimpled⟩ ⟨by decide, by decide⟩ (Nat.zero_le _) (by decide +kernel), ?_⟩
  refine List.forall_mem_cons.mpr ⟨am_if_eq_ok (off := 7) X (by decide +kernel) (by decide), ?_⟩
  refine List.forall_mem_cons.mpr ⟨am_iconst_ok X (by decide +kernel), ?_⟩
  refine List.forall_mem_cons.mpr ⟨am_goto_ok (off := 4) X (by decide +kernel) (by decide), ?_⟩
  refine List.forall_mem_cons.mpr ⟨am_iconst_ok X (by decide +kernel), ?_⟩
  refine List.forall_mem_cons.mpr ⟨am_ret_ok X hr (by decide +kernel), ?_⟩
  exact fun _ h => absurd h List.not_mem_nil
abbrev b_Mo_roundOf : AT := [(0, am_lc 0 1), (1, am_lst 1 1), (2, am_ic 1 1), (3, am_ist 3 1), (4, am_ild 3 1), (5, am_ic 1 1), (6, am_iadd), (7, am_ald 0 1), (8, am_get am_Y 9 5), (11, am_icmp 3 47), (14, am_lld 1 1), (15, am_ald 0 1), (16, am_ald 0 1), (17, am_get am_Y 9 4), (20, am_ic 0 1), (21, am_iald am_Y), (22, am_ald 0 1), (23, am_get am_Y 9 4), (26, am_ild 3 1), (27, am_iald am_Y), (28, am_ald 0 1), (29, am_get am_Y 9 4), (32, am_ild 3 1), (33, am_ic 1 1), (34, am_iadd), (35, am_iald am_Y), (36, am_callV am_Y 9 96 3), (39, am_ladd), (40, am_lst 1 1), (41, am_inc 3 (1)), (44, am_goto 4), (47, am_lld 1 1), (48, am_lret)]
set_option maxRecDepth 100000 in
set_option maxHeartbeats 4000000 in
theorem T_Mo_roundOf : am_T am_Y am_cl am_Gw am_mi 142 b_Mo_roundOf := by
  intro E A p l e s m args below meth c Rt X hr
  refine List.forall_mem_cons.mpr ⟨am_lconst_ok (n := 0) X (by decide +kernel), ?_⟩
  refine List.forall_mem_cons.mpr ⟨am_lstore_n_ok (k := 1) X (by decide) (by decide +kernel), ?_⟩
  refine List.forall_mem_cons.mpr ⟨am_iconst_ok X (by decide +kernel), ?_⟩
  refine List.forall_mem_cons.mpr ⟨am_istore_n_ok (k := 3) X (by decide) (by decide +kernel), ?_⟩
  refine List.forall_mem_cons.mpr ⟨am_iload_n_ok (k := 3) X (by decide +kernel), ?_⟩
  refine List.forall_mem_cons.mpr ⟨am_iconst_ok X (by decide +kernel), ?_⟩
  refine List.forall_mem_cons.mpr ⟨am_iadd_ok X (by decide +kernel), ?_⟩
  refine List.forall_mem_cons.mpr ⟨am_aload_n_ok (k := 0) X (by decide +kernel), ?_⟩
  refine List.forall_mem_cons.mpr ⟨am_get_ok (C := R_Mo) (T := F_Mo) (N := 13) (idx := 52) X rfl (by decide) (fun w h => List.mem_cons_of_mem _ (u_Mo w h)) (List.mem_cons_of_mem _ w_Mo_52) (by decide +kernel), ?_⟩
  refine List.forall_mem_cons.mpr ⟨am_icmp_ge_ok (off := 36) X (by decide +kernel) (by decide), ?_⟩
  refine List.forall_mem_cons.mpr ⟨am_lload_n_ok (k := 1) X (by decide +kernel), ?_⟩
  refine List.forall_mem_cons.mpr ⟨am_aload_n_ok (k := 0) X (by decide +kernel), ?_⟩
  refine List.forall_mem_cons.mpr ⟨am_aload_n_ok (k := 0) X (by decide +kernel), ?_⟩
  refine List.forall_mem_cons.mpr ⟨am_get_ok (C := R_Mo) (T := F_Mo) (N := 13) (idx := 16) X rfl (by decide) (fun w h => List.mem_cons_of_mem _ (u_Mo w h)) (List.mem_cons_of_mem _ w_Mo_16) (by decide +kernel), ?_⟩
  refine List.forall_mem_cons.mpr ⟨am_iconst_ok X (by decide +kernel), ?_⟩
  refine List.forall_mem_cons.mpr ⟨am_iald_ok X am_Y0 (by decide +kernel), ?_⟩
  refine List.forall_mem_cons.mpr ⟨am_aload_n_ok (k := 0) X (by decide +kernel), ?_⟩
  refine List.forall_mem_cons.mpr ⟨am_get_ok (C := R_Mo) (T := F_Mo) (N := 13) (idx := 16) X rfl (by decide) (fun w h => List.mem_cons_of_mem _ (u_Mo w h)) (List.mem_cons_of_mem _ w_Mo_16) (by decide +kernel), ?_⟩
  refine List.forall_mem_cons.mpr ⟨am_iload_n_ok (k := 3) X (by decide +kernel), ?_⟩
  refine List.forall_mem_cons.mpr ⟨am_iald_ok X am_Y0 (by decide +kernel), ?_⟩
  refine List.forall_mem_cons.mpr ⟨am_aload_n_ok (k := 0) X (by decide +kernel), ?_⟩
  refine List.forall_mem_cons.mpr ⟨am_get_ok (C := R_Mo) (T := F_Mo) (N := 13) (idx := 16) X rfl (by decide) (fun w h => List.mem_cons_of_mem _ (u_Mo w h)) (List.mem_cons_of_mem _ w_Mo_16) (by decide +kernel), ?_⟩
  refine List.forall_mem_cons.mpr ⟨am_iload_n_ok (k := 3) X (by decide +kernel), ?_⟩
  refine List.forall_mem_cons.mpr ⟨am_iconst_ok X (by decide +kernel), ?_⟩
  refine List.forall_mem_cons.mpr ⟨am_iadd_ok X (by decide +kernel), ?_⟩
  refine List.forall_mem_cons.mpr ⟨am_iald_ok X am_Y0 (by decide +kernel), ?_⟩
  refine List.forall_mem_cons.mpr ⟨am_callV_ok (C := R_Mo) (T := F_Mo) (N := 13) (idx := 76) X rfl (am_GV m_Mo_76 v_Mo_turnOf.1 v_Mo_turnOf.2.1 v_Mo_turnOf.2.2.1 v_Mo_turnOf.2.2.2) ⟨rfl, v_Mo_turnOfd⟩ ⟨by decide, by decide⟩ (Nat.zero_le _) (by decide +kernel), ?_⟩
  refine List.forall_mem_cons.mpr ⟨am_ladd_ok X (by decide +kernel), ?_⟩
  refine List.forall_mem_cons.mpr ⟨am_lstore_n_ok (k := 1) X (by decide) (by decide +kernel), ?_⟩
  refine List.forall_mem_cons.mpr ⟨am_iinc_ok X (by decide) (by decide +kernel), ?_⟩
  refine List.forall_mem_cons.mpr ⟨am_goto_ok (off := -40) X (by decide +kernel) (by decide), ?_⟩
  refine List.forall_mem_cons.mpr ⟨am_lload_n_ok (k := 1) X (by decide +kernel), ?_⟩
  refine List.forall_mem_cons.mpr ⟨am_lret_ok X hr (by decide +kernel), ?_⟩
  exact fun _ h => absurd h List.not_mem_nil
abbrev b_Mo_round : AT := [(0, am_ald 0 1), (1, am_ic 0 1), (2, am_put am_Y 9 0), (5, am_ald 0 1), (6, am_get am_Y 9 5), (9, am_ic 3 1), (10, am_icmp 3 17), (13, am_lc 0 1), (14, am_goto 21), (17, am_ald 0 1), (18, am_callV am_Y 9 142 0), (21, am_lret)]
set_option maxRecDepth 100000 in
set_option maxHeartbeats 4000000 in
theorem T_Mo_round : am_T am_Y am_cl am_Gw am_mi 143 b_Mo_round := by
  intro E A p l e s m args below meth c Rt X hr
  refine List.forall_mem_cons.mpr ⟨am_aload_n_ok (k := 0) X (by decide +kernel), ?_⟩
  refine List.forall_mem_cons.mpr ⟨am_iconst_ok X (by decide +kernel), ?_⟩
  refine List.forall_mem_cons.mpr ⟨am_put_ok (C := R_Mo) (T := F_Mo) (N := 13) (idx := 39) X rfl (by decide) (fun w h => List.mem_cons_of_mem _ (u_Mo w h)) t_Mo_ok n_Mo rfl (by decide +kernel) (List.mem_cons_of_mem _ w_Mo_39) (by decide +kernel), ?_⟩
  refine List.forall_mem_cons.mpr ⟨am_aload_n_ok (k := 0) X (by decide +kernel), ?_⟩
  refine List.forall_mem_cons.mpr ⟨am_get_ok (C := R_Mo) (T := F_Mo) (N := 13) (idx := 52) X rfl (by decide) (fun w h => List.mem_cons_of_mem _ (u_Mo w h)) (List.mem_cons_of_mem _ w_Mo_52) (by decide +kernel), ?_⟩
  refine List.forall_mem_cons.mpr ⟨am_iconst_ok X (by decide +kernel), ?_⟩
  refine List.forall_mem_cons.mpr ⟨am_icmp_ge_ok (off := 7) X (by decide +kernel) (by decide), ?_⟩
  refine List.forall_mem_cons.mpr ⟨am_lconst_ok (n := 0) X (by decide +kernel), ?_⟩
  refine List.forall_mem_cons.mpr ⟨am_goto_ok (off := 7) X (by decide +kernel) (by decide), ?_⟩
  refine List.forall_mem_cons.mpr ⟨am_aload_n_ok (k := 0) X (by decide +kernel), ?_⟩
  refine List.forall_mem_cons.mpr ⟨am_callV_ok (C := R_Mo) (T := F_Mo) (N := 13) (idx := 159) X rfl (am_GV m_Mo_159 v_Mo_roundOf.1 v_Mo_roundOf.2.1 v_Mo_roundOf.2.2.1 v_Mo_roundOf.2.2.2) ⟨rfl, v_Mo_roundOfd⟩ ⟨by decide, by decide⟩ (Nat.zero_le _) (by decide +kernel), ?_⟩
  refine List.forall_mem_cons.mpr ⟨am_lret_ok X hr (by decide +kernel), ?_⟩
  exact fun _ h => absurd h List.not_mem_nil
abbrev b_Mo_inside : AT := [(0, am_ald 0 1), (1, am_ild 1 1), (2, am_callS 92 1), (5, am_if 1 15), (8, am_ild 2 1), (9, am_callS 92 1), (12, am_if 0 19), (15, am_ic 1 1), (16, am_goto 20), (19, am_ic 0 1), (20, am_put am_Y 9 0), (23, am_ald 0 1), (24, am_get am_Y 9 0), (27, am_if 5 32), (30, am_ic 0 1), (31, am_ret), (32, am_ald 0 1), (33, am_callV am_Y 9 140 0), (36, am_if 1 42), (39, am_ic (-2) 2), (41, am_ret), (42, am_ic 0 1), (43, am_ist 3 1), (44, am_ic 0 1), (45, am_ist 4 2), (47, am_ild 4 2), (49, am_ald 0 1), (50, am_get am_Y 9 5), (53, am_icmp 3 211), (56, am_ald 0 1), (57, am_get am_Y 9 4), (60, am_ild 4 2), (62, am_iald am_Y), (63, am_ist 5 2), (65, am_ald 0 1), (66, am_get am_Y 9 4), (69, am_ald 0 1), (70, am_ild 4 2), (72, am_callV am_Y 9 133 1), (75, am_iald am_Y), (76, am_ist 6 2), (78, am_ald 0 1), (79, am_ild 5 2), (81, am_ild 6 2), (83, am_ild 1 1), (84, am_ild 2 1), (85, am_callV am_Y 9 100 4), (88, am_if 0 93), (91, am_ic 0 1), (92, am_ret), (93, am_ald 0 1), (94, am_get am_Y 9 2), (97, am_ild 5 2), (99, am_iald am_Y), (100, am_ild 2 1), (101, am_icmp 4 134), (104, am_ald 0 1), (105, am_get am_Y 9 2), (108, am_ild 6 2), (110, am_iald am_Y), (111, am_ild 2 1), (112, am_icmp 5 134), (115, am_ald 0 1), (116, am_ild 5 2), (118, am_ild 6 2), (120, am_ild 1 1), (121, am_ild 2 1), (122, am_callV am_Y 9 95 4), (125, am_lc 0 1), (126, am_lcmp 3 134), (130, am_ic 1 1), (131, am_goto 135), (134, am_ic 0 1), (135, am_ist 7 2), (137, am_ald 0 1), (138, am_get am_Y 9 2), (141, am_ild 5 2), (143, am_iald am_Y), (144, am_ild 2 1), (145, am_icmp 5 178), (148, am_ald 0 1), (149, am_get am_Y 9 2), (152, am_ild 6 2), (154, am_iald am_Y), (155, am_ild 2 1), (156, am_icmp 4 178), (159, am_ald 0 1), (160, am_ild 5 2), (162, am_ild 6 2), (164, am_ild 1 1), (165, am_ild 2 1), (166, am_callV am_Y 9 95 4), (169, am_lc 0 1), (170, am_lcmp 5 178), (174, am_ic 1 1), (175, am_goto 179), (178, am_ic 0 1), (179, am_ist 8 2), (181, am_ild 7 2), (183, am_if 0 192), (186, am_ild 3 1), (187, am_ic 1 1), (188, am_iadd), (189, am_goto 204), (192, am_ild 8 2), (194, am_if 0 203), (197, am_ild 3 1), (198, am_ic 1 1), (199, am_isub), (200, am_goto 204), (203, am_ild 3 1), (204, am_ist 3 1), (205, am_inc 4 (1)), (208, am_goto 47), (211, am_ild 3 1), (212, am_if 1 219), (215, am_ic (-1) 1), (216, am_goto 220), (219, am_ic 1 1), (220, am_ret)]
set_option maxRecDepth 100000 in
set_option maxHeartbeats 4000000 in
theorem T_Mo_inside : am_T am_Y am_cl am_Gw am_mi 144 b_Mo_inside := by
  intro E A p l e s m args below meth c Rt X hr
  refine List.forall_mem_cons.mpr ⟨am_aload_n_ok (k := 0) X (by decide +kernel), ?_⟩
  refine List.forall_mem_cons.mpr ⟨am_iload_n_ok (k := 1) X (by decide +kernel), ?_⟩
  refine List.forall_mem_cons.mpr ⟨am_callS_ok (idx := 43) X (am_GS m_Mo_43 v_Mo_isFar.1 v_Mo_isFar.2.1 v_Mo_isFar.2.2) ⟨rfl, v_Mo_isFard⟩ ⟨by decide, by decide⟩ (by decide +kernel), ?_⟩
  refine List.forall_mem_cons.mpr ⟨am_if_ne_ok (off := 10) X (by decide +kernel) (by decide), ?_⟩
  refine List.forall_mem_cons.mpr ⟨am_iload_n_ok (k := 2) X (by decide +kernel), ?_⟩
  refine List.forall_mem_cons.mpr ⟨am_callS_ok (idx := 43) X (am_GS m_Mo_43 v_Mo_isFar.1 v_Mo_isFar.2.1 v_Mo_isFar.2.2) ⟨rfl, v_Mo_isFard⟩ ⟨by decide, by decide⟩ (by decide +kernel), ?_⟩
  refine List.forall_mem_cons.mpr ⟨am_if_eq_ok (off := 7) X (by decide +kernel) (by decide), ?_⟩
  refine List.forall_mem_cons.mpr ⟨am_iconst_ok X (by decide +kernel), ?_⟩
  refine List.forall_mem_cons.mpr ⟨am_goto_ok (off := 4) X (by decide +kernel) (by decide), ?_⟩
  refine List.forall_mem_cons.mpr ⟨am_iconst_ok X (by decide +kernel), ?_⟩
  refine List.forall_mem_cons.mpr ⟨am_put_ok (C := R_Mo) (T := F_Mo) (N := 13) (idx := 39) X rfl (by decide) (fun w h => List.mem_cons_of_mem _ (u_Mo w h)) t_Mo_ok n_Mo rfl (by decide +kernel) (List.mem_cons_of_mem _ w_Mo_39) (by decide +kernel), ?_⟩
  refine List.forall_mem_cons.mpr ⟨am_aload_n_ok (k := 0) X (by decide +kernel), ?_⟩
  refine List.forall_mem_cons.mpr ⟨am_get_ok (C := R_Mo) (T := F_Mo) (N := 13) (idx := 39) X rfl (by decide) (fun w h => List.mem_cons_of_mem _ (u_Mo w h)) (List.mem_cons_of_mem _ w_Mo_39) (by decide +kernel), ?_⟩
  refine List.forall_mem_cons.mpr ⟨am_if_le_ok (off := 5) X (by decide +kernel) (by decide), ?_⟩
  refine List.forall_mem_cons.mpr ⟨am_iconst_ok X (by decide +kernel), ?_⟩
  refine List.forall_mem_cons.mpr ⟨am_ret_ok X hr (by decide +kernel), ?_⟩
  refine List.forall_mem_cons.mpr ⟨am_aload_n_ok (k := 0) X (by decide +kernel), ?_⟩
  refine List.forall_mem_cons.mpr ⟨am_callV_ok (C := R_Mo) (T := F_Mo) (N := 13) (idx := 156) X rfl (am_GV m_Mo_156 v_Mo_isSimple.1 v_Mo_isSimple.2.1 v_Mo_isSimple.2.2.1 v_Mo_isSimple.2.2.2) ⟨rfl, v_Mo_isSimpled⟩ ⟨by decide, by decide⟩ (Nat.zero_le _) (by decide +kernel), ?_⟩
  refine List.forall_mem_cons.mpr ⟨am_if_ne_ok (off := 6) X (by decide +kernel) (by decide), ?_⟩
  refine List.forall_mem_cons.mpr ⟨am_bipush_ok X (by decide +kernel) (by decide), ?_⟩
  refine List.forall_mem_cons.mpr ⟨am_ret_ok X hr (by decide +kernel), ?_⟩
  refine List.forall_mem_cons.mpr ⟨am_iconst_ok X (by decide +kernel), ?_⟩
  refine List.forall_mem_cons.mpr ⟨am_istore_n_ok (k := 3) X (by decide) (by decide +kernel), ?_⟩
  refine List.forall_mem_cons.mpr ⟨am_iconst_ok X (by decide +kernel), ?_⟩
  refine List.forall_mem_cons.mpr ⟨am_istore_ok X (by decide) (by decide +kernel), ?_⟩
  refine List.forall_mem_cons.mpr ⟨am_iload_ok X (by decide +kernel), ?_⟩
  refine List.forall_mem_cons.mpr ⟨am_aload_n_ok (k := 0) X (by decide +kernel), ?_⟩
  refine List.forall_mem_cons.mpr ⟨am_get_ok (C := R_Mo) (T := F_Mo) (N := 13) (idx := 52) X rfl (by decide) (fun w h => List.mem_cons_of_mem _ (u_Mo w h)) (List.mem_cons_of_mem _ w_Mo_52) (by decide +kernel), ?_⟩
  refine List.forall_mem_cons.mpr ⟨am_icmp_ge_ok (off := 158) X (by decide +kernel) (by decide), ?_⟩
  refine List.forall_mem_cons.mpr ⟨am_aload_n_ok (k := 0) X (by decide +kernel), ?_⟩
  refine List.forall_mem_cons.mpr ⟨am_get_ok (C := R_Mo) (T := F_Mo) (N := 13) (idx := 16) X rfl (by decide) (fun w h => List.mem_cons_of_mem _ (u_Mo w h)) (List.mem_cons_of_mem _ w_Mo_16) (by decide +kernel), ?_⟩
  refine List.forall_mem_cons.mpr ⟨am_iload_ok X (by decide +kernel), ?_⟩
  refine List.forall_mem_cons.mpr ⟨am_iald_ok X am_Y0 (by decide +kernel), ?_⟩
  refine List.forall_mem_cons.mpr ⟨am_istore_ok X (by decide) (by decide +kernel), ?_⟩
  refine List.forall_mem_cons.mpr ⟨am_aload_n_ok (k := 0) X (by decide +kernel), ?_⟩
  refine List.forall_mem_cons.mpr ⟨am_get_ok (C := R_Mo) (T := F_Mo) (N := 13) (idx := 16) X rfl (by decide) (fun w h => List.mem_cons_of_mem _ (u_Mo w h)) (List.mem_cons_of_mem _ w_Mo_16) (by decide +kernel), ?_⟩
  refine List.forall_mem_cons.mpr ⟨am_aload_n_ok (k := 0) X (by decide +kernel), ?_⟩
  refine List.forall_mem_cons.mpr ⟨am_iload_ok X (by decide +kernel), ?_⟩
  refine List.forall_mem_cons.mpr ⟨am_callV_ok (C := R_Mo) (T := F_Mo) (N := 13) (idx := 144) X rfl (am_GV m_Mo_144 v_Mo_behind.1 v_Mo_behind.2.1 v_Mo_behind.2.2.1 v_Mo_behind.2.2.2) ⟨rfl, v_Mo_behindd⟩ ⟨by decide, by decide⟩ (Nat.zero_le _) (by decide +kernel), ?_⟩
  refine List.forall_mem_cons.mpr ⟨am_iald_ok X am_Y0 (by decide +kernel), ?_⟩
  refine List.forall_mem_cons.mpr ⟨am_istore_ok X (by decide) (by decide +kernel), ?_⟩
  refine List.forall_mem_cons.mpr ⟨am_aload_n_ok (k := 0) X (by decide +kernel), ?_⟩
  refine List.forall_mem_cons.mpr ⟨am_iload_ok X (by decide +kernel), ?_⟩
  refine List.forall_mem_cons.mpr ⟨am_iload_ok X (by decide +kernel), ?_⟩
  refine List.forall_mem_cons.mpr ⟨am_iload_n_ok (k := 1) X (by decide +kernel), ?_⟩
  refine List.forall_mem_cons.mpr ⟨am_iload_n_ok (k := 2) X (by decide +kernel), ?_⟩
  refine List.forall_mem_cons.mpr ⟨am_callV_ok (C := R_Mo) (T := F_Mo) (N := 13) (idx := 83) X rfl (am_GV m_Mo_83 v_Mo_isOn.1 v_Mo_isOn.2.1 v_Mo_isOn.2.2.1 v_Mo_isOn.2.2.2) ⟨rfl, v_Mo_isOnd⟩ ⟨by decide, by decide⟩ (Nat.zero_le _) (by decide +kernel), ?_⟩
  refine List.forall_mem_cons.mpr ⟨am_if_eq_ok (off := 5) X (by decide +kernel) (by decide), ?_⟩
  refine List.forall_mem_cons.mpr ⟨am_iconst_ok X (by decide +kernel), ?_⟩
  refine List.forall_mem_cons.mpr ⟨am_ret_ok X hr (by decide +kernel), ?_⟩
  refine List.forall_mem_cons.mpr ⟨am_aload_n_ok (k := 0) X (by decide +kernel), ?_⟩
  refine List.forall_mem_cons.mpr ⟨am_get_ok (C := R_Mo) (T := F_Mo) (N := 13) (idx := 13) X rfl (by decide) (fun w h => List.mem_cons_of_mem _ (u_Mo w h)) (List.mem_cons_of_mem _ w_Mo_13) (by decide +kernel), ?_⟩
  refine List.forall_mem_cons.mpr ⟨am_iload_ok X (by decide +kernel), ?_⟩
  refine List.forall_mem_cons.mpr ⟨am_iald_ok X am_Y0 (by decide +kernel), ?_⟩
  refine List.forall_mem_cons.mpr ⟨am_iload_n_ok (k := 2) X (by decide +kernel), ?_⟩
  refine List.forall_mem_cons.mpr ⟨am_icmp_gt_ok (off := 33) X (by decide +kernel) (by decide), ?_⟩
  refine List.forall_mem_cons.mpr ⟨am_aload_n_ok (k := 0) X (by decide +kernel), ?_⟩
  refine List.forall_mem_cons.mpr ⟨am_get_ok (C := R_Mo) (T := F_Mo) (N := 13) (idx := 13) X rfl (by decide) (fun w h => List.mem_cons_of_mem _ (u_Mo w h)) (List.mem_cons_of_mem _ w_Mo_13) (by decide +kernel), ?_⟩
  refine List.forall_mem_cons.mpr ⟨am_iload_ok X (by decide +kernel), ?_⟩
  refine List.forall_mem_cons.mpr ⟨am_iald_ok X am_Y0 (by decide +kernel), ?_⟩
  refine List.forall_mem_cons.mpr ⟨am_iload_n_ok (k := 2) X (by decide +kernel), ?_⟩
  refine List.forall_mem_cons.mpr ⟨am_icmp_le_ok (off := 22) X (by decide +kernel) (by decide), ?_⟩
  refine List.forall_mem_cons.mpr ⟨am_aload_n_ok (k := 0) X (by decide +kernel), ?_⟩
  refine List.forall_mem_cons.mpr ⟨am_iload_ok X (by decide +kernel), ?_⟩
  refine List.forall_mem_cons.mpr ⟨am_iload_ok X (by decide +kernel), ?_⟩
  refine List.forall_mem_cons.mpr ⟨am_iload_n_ok (k := 1) X (by decide +kernel), ?_⟩
  refine List.forall_mem_cons.mpr ⟨am_iload_n_ok (k := 2) X (by decide +kernel), ?_⟩
  refine List.forall_mem_cons.mpr ⟨am_callV_ok (C := R_Mo) (T := F_Mo) (N := 13) (idx := 55) X rfl (am_GV m_Mo_55 v_Mo_c.1 v_Mo_c.2.1 v_Mo_c.2.2.1 v_Mo_c.2.2.2) ⟨rfl, v_Mo_cd⟩ ⟨by decide, by decide⟩ (Nat.zero_le _) (by decide +kernel), ?_⟩
  refine List.forall_mem_cons.mpr ⟨am_lconst_ok (n := 0) X (by decide +kernel), ?_⟩
  refine List.forall_mem_cons.mpr ⟨am_lcmp_ge_ok (off := 7) X (by decide +kernel) (by decide +kernel) (by decide), ?_⟩
  refine List.forall_mem_cons.mpr ⟨am_iconst_ok X (by decide +kernel), ?_⟩
  refine List.forall_mem_cons.mpr ⟨am_goto_ok (off := 4) X (by decide +kernel) (by decide), ?_⟩
  refine List.forall_mem_cons.mpr ⟨am_iconst_ok X (by decide +kernel), ?_⟩
  refine List.forall_mem_cons.mpr ⟨am_istore_ok X (by decide) (by decide +kernel), ?_⟩
  refine List.forall_mem_cons.mpr ⟨am_aload_n_ok (k := 0) X (by decide +kernel), ?_⟩
  refine List.forall_mem_cons.mpr ⟨am_get_ok (C := R_Mo) (T := F_Mo) (N := 13) (idx := 13) X rfl (by decide) (fun w h => List.mem_cons_of_mem _ (u_Mo w h)) (List.mem_cons_of_mem _ w_Mo_13) (by decide +kernel), ?_⟩
  refine List.forall_mem_cons.mpr ⟨am_iload_ok X (by decide +kernel), ?_⟩
  refine List.forall_mem_cons.mpr ⟨am_iald_ok X am_Y0 (by decide +kernel), ?_⟩
  refine List.forall_mem_cons.mpr ⟨am_iload_n_ok (k := 2) X (by decide +kernel), ?_⟩
  refine List.forall_mem_cons.mpr ⟨am_icmp_le_ok (off := 33) X (by decide +kernel) (by decide), ?_⟩
  refine List.forall_mem_cons.mpr ⟨am_aload_n_ok (k := 0) X (by decide +kernel), ?_⟩
  refine List.forall_mem_cons.mpr ⟨am_get_ok (C := R_Mo) (T := F_Mo) (N := 13) (idx := 13) X rfl (by decide) (fun w h => List.mem_cons_of_mem _ (u_Mo w h)) (List.mem_cons_of_mem _ w_Mo_13) (by decide +kernel), ?_⟩
  refine List.forall_mem_cons.mpr ⟨am_iload_ok X (by decide +kernel), ?_⟩
  refine List.forall_mem_cons.mpr ⟨am_iald_ok X am_Y0 (by decide +kernel), ?_⟩
  refine List.forall_mem_cons.mpr ⟨am_iload_n_ok (k := 2) X (by decide +kernel), ?_⟩
  refine List.forall_mem_cons.mpr ⟨am_icmp_gt_ok (off := 22) X (by decide +kernel) (by decide), ?_⟩
  refine List.forall_mem_cons.mpr ⟨am_aload_n_ok (k := 0) X (by decide +kernel), ?_⟩
  refine List.forall_mem_cons.mpr ⟨am_iload_ok X (by decide +kernel), ?_⟩
  refine List.forall_mem_cons.mpr ⟨am_iload_ok X (by decide +kernel), ?_⟩
  refine List.forall_mem_cons.mpr ⟨am_iload_n_ok (k := 1) X (by decide +kernel), ?_⟩
  refine List.forall_mem_cons.mpr ⟨am_iload_n_ok (k := 2) X (by decide +kernel), ?_⟩
  refine List.forall_mem_cons.mpr ⟨am_callV_ok (C := R_Mo) (T := F_Mo) (N := 13) (idx := 55) X rfl (am_GV m_Mo_55 v_Mo_c.1 v_Mo_c.2.1 v_Mo_c.2.2.1 v_Mo_c.2.2.2) ⟨rfl, v_Mo_cd⟩ ⟨by decide, by decide⟩ (Nat.zero_le _) (by decide +kernel), ?_⟩
  refine List.forall_mem_cons.mpr ⟨am_lconst_ok (n := 0) X (by decide +kernel), ?_⟩
  refine List.forall_mem_cons.mpr ⟨am_lcmp_le_ok (off := 7) X (by decide +kernel) (by decide +kernel) (by decide), ?_⟩
  refine List.forall_mem_cons.mpr ⟨am_iconst_ok X (by decide +kernel), ?_⟩
  refine List.forall_mem_cons.mpr ⟨am_goto_ok (off := 4) X (by decide +kernel) (by decide), ?_⟩
  refine List.forall_mem_cons.mpr ⟨am_iconst_ok X (by decide +kernel), ?_⟩
  refine List.forall_mem_cons.mpr ⟨am_istore_ok X (by decide) (by decide +kernel), ?_⟩
  refine List.forall_mem_cons.mpr ⟨am_iload_ok X (by decide +kernel), ?_⟩
  refine List.forall_mem_cons.mpr ⟨am_if_eq_ok (off := 9) X (by decide +kernel) (by decide), ?_⟩
  refine List.forall_mem_cons.mpr ⟨am_iload_n_ok (k := 3) X (by decide +kernel), ?_⟩
  refine List.forall_mem_cons.mpr ⟨am_iconst_ok X (by decide +kernel), ?_⟩
  refine List.forall_mem_cons.mpr ⟨am_iadd_ok X (by decide +kernel), ?_⟩
  refine List.forall_mem_cons.mpr ⟨am_goto_ok (off := 15) X (by decide +kernel) (by decide), ?_⟩
  refine List.forall_mem_cons.mpr ⟨am_iload_ok X (by decide +kernel), ?_⟩
  refine List.forall_mem_cons.mpr ⟨am_if_eq_ok (off := 9) X (by decide +kernel) (by decide), ?_⟩
  refine List.forall_mem_cons.mpr ⟨am_iload_n_ok (k := 3) X (by decide +kernel), ?_⟩
  refine List.forall_mem_cons.mpr ⟨am_iconst_ok X (by decide +kernel), ?_⟩
  refine List.forall_mem_cons.mpr ⟨am_isub_ok X (by decide +kernel), ?_⟩
  refine List.forall_mem_cons.mpr ⟨am_goto_ok (off := 4) X (by decide +kernel) (by decide), ?_⟩
  refine List.forall_mem_cons.mpr ⟨am_iload_n_ok (k := 3) X (by decide +kernel), ?_⟩
  refine List.forall_mem_cons.mpr ⟨am_istore_n_ok (k := 3) X (by decide) (by decide +kernel), ?_⟩
  refine List.forall_mem_cons.mpr ⟨am_iinc_ok X (by decide) (by decide +kernel), ?_⟩
  refine List.forall_mem_cons.mpr ⟨am_goto_ok (off := -161) X (by decide +kernel) (by decide), ?_⟩
  refine List.forall_mem_cons.mpr ⟨am_iload_n_ok (k := 3) X (by decide +kernel), ?_⟩
  refine List.forall_mem_cons.mpr ⟨am_if_ne_ok (off := 7) X (by decide +kernel) (by decide), ?_⟩
  refine List.forall_mem_cons.mpr ⟨am_iconst_ok X (by decide +kernel), ?_⟩
  refine List.forall_mem_cons.mpr ⟨am_goto_ok (off := 4) X (by decide +kernel) (by decide), ?_⟩
  refine List.forall_mem_cons.mpr ⟨am_iconst_ok X (by decide +kernel), ?_⟩
  refine List.forall_mem_cons.mpr ⟨am_ret_ok X hr (by decide +kernel), ?_⟩
  exact fun _ h => absurd h List.not_mem_nil
abbrev b_Mo_leftFrom : AT := [(0, am_ild 1 1), (1, am_ild 2 1), (2, am_iadd), (3, am_ald 0 1), (4, am_get am_Y 9 5), (7, am_irem), (8, am_ist 3 1), (9, am_ald 0 1), (10, am_get am_Y 9 12), (13, am_ild 3 1), (14, am_zald am_Y), (15, am_if 0 30), (18, am_ild 3 1), (19, am_ild 2 1), (20, am_iadd), (21, am_ald 0 1), (22, am_get am_Y 9 5), (25, am_irem), (26, am_ist 3 1), (27, am_goto 9), (30, am_ild 3 1), (31, am_ret)]
set_option maxRecDepth 100000 in
set_option maxHeartbeats 4000000 in
theorem T_Mo_leftFrom : am_T am_Y am_cl am_Gw am_mi 145 b_Mo_leftFrom := by
  intro E A p l e s m args below meth c Rt X hr
  refine List.forall_mem_cons.mpr ⟨am_iload_n_ok (k := 1) X (by decide +kernel), ?_⟩
  refine List.forall_mem_cons.mpr ⟨am_iload_n_ok (k := 2) X (by decide +kernel), ?_⟩
  refine List.forall_mem_cons.mpr ⟨am_iadd_ok X (by decide +kernel), ?_⟩
  refine List.forall_mem_cons.mpr ⟨am_aload_n_ok (k := 0) X (by decide +kernel), ?_⟩
  refine List.forall_mem_cons.mpr ⟨am_get_ok (C := R_Mo) (T := F_Mo) (N := 13) (idx := 52) X rfl (by decide) (fun w h => List.mem_cons_of_mem _ (u_Mo w h)) (List.mem_cons_of_mem _ w_Mo_52) (by decide +kernel), ?_⟩
  refine List.forall_mem_cons.mpr ⟨am_irem_ok X (by decide +kernel), ?_⟩
  refine List.forall_mem_cons.mpr ⟨am_istore_n_ok (k := 3) X (by decide) (by decide +kernel), ?_⟩
  refine List.forall_mem_cons.mpr ⟨am_aload_n_ok (k := 0) X (by decide +kernel), ?_⟩
  refine List.forall_mem_cons.mpr ⟨am_get_ok (C := R_Mo) (T := F_Mo) (N := 13) (idx := 36) X rfl (by decide) (fun w h => List.mem_cons_of_mem _ (u_Mo w h)) (List.mem_cons_of_mem _ w_Mo_36) (by decide +kernel), ?_⟩
  refine List.forall_mem_cons.mpr ⟨am_iload_n_ok (k := 3) X (by decide +kernel), ?_⟩
  refine List.forall_mem_cons.mpr ⟨am_zald_ok X am_Y0 (by decide +kernel), ?_⟩
  refine List.forall_mem_cons.mpr ⟨am_if_eq_ok (off := 15) X (by decide +kernel) (by decide), ?_⟩
  refine List.forall_mem_cons.mpr ⟨am_iload_n_ok (k := 3) X (by decide +kernel), ?_⟩
  refine List.forall_mem_cons.mpr ⟨am_iload_n_ok (k := 2) X (by decide +kernel), ?_⟩
  refine List.forall_mem_cons.mpr ⟨am_iadd_ok X (by decide +kernel), ?_⟩
  refine List.forall_mem_cons.mpr ⟨am_aload_n_ok (k := 0) X (by decide +kernel), ?_⟩
  refine List.forall_mem_cons.mpr ⟨am_get_ok (C := R_Mo) (T := F_Mo) (N := 13) (idx := 52) X rfl (by decide) (fun w h => List.mem_cons_of_mem _ (u_Mo w h)) (List.mem_cons_of_mem _ w_Mo_52) (by decide +kernel), ?_⟩
  refine List.forall_mem_cons.mpr ⟨am_irem_ok X (by decide +kernel), ?_⟩
  refine List.forall_mem_cons.mpr ⟨am_istore_n_ok (k := 3) X (by decide) (by decide +kernel), ?_⟩
  refine List.forall_mem_cons.mpr ⟨am_goto_ok (off := -18) X (by decide +kernel) (by decide), ?_⟩
  refine List.forall_mem_cons.mpr ⟨am_iload_n_ok (k := 3) X (by decide +kernel), ?_⟩
  refine List.forall_mem_cons.mpr ⟨am_ret_ok X hr (by decide +kernel), ?_⟩
  exact fun _ h => absurd h List.not_mem_nil
abbrev b_Mo_isEar : AT := [(0, am_ald 0 1), (1, am_get am_Y 9 4), (4, am_ald 0 1), (5, am_ild 1 1), (6, am_ald 0 1), (7, am_get am_Y 9 5), (10, am_ic 1 1), (11, am_isub), (12, am_callV am_Y 9 145 2), (15, am_iald am_Y), (16, am_ist 3 1), (17, am_ald 0 1), (18, am_get am_Y 9 4), (21, am_ild 1 1), (22, am_iald am_Y), (23, am_ist 4 2), (25, am_ald 0 1), (26, am_get am_Y 9 4), (29, am_ald 0 1), (30, am_ild 1 1), (31, am_ic 1 1), (32, am_callV am_Y 9 145 2), (35, am_iald am_Y), (36, am_ist 5 2), (38, am_ald 0 1), (39, am_ild 3 1), (40, am_ild 4 2), (42, am_ild 5 2), (44, am_callV am_Y 9 96 3), (47, am_callS 127 1), (50, am_ild 2 1), (51, am_icmp 1 58), (54, am_ic 1 1), (55, am_goto 59), (58, am_ic 0 1), (59, am_ist 6 2), (61, am_ic 0 1), (62, am_ist 7 2), (64, am_ild 7 2), (66, am_ald 0 1), (67, am_get am_Y 9 5), (70, am_icmp 3 194), (73, am_ild 6 2), (75, am_if 0 194), (78, am_ald 0 1), (79, am_get am_Y 9 4), (82, am_ild 7 2), (84, am_iald am_Y), (85, am_ist 8 2), (87, am_ald 0 1), (88, am_get am_Y 9 12), (91, am_ild 7 2), (93, am_zald am_Y), (94, am_if 1 188), (97, am_ild 8 2), (99, am_ild 3 1), (100, am_icmp 0 188), (103, am_ild 8 2), (105, am_ild 4 2), (107, am_icmp 0 188), (110, am_ild 8 2), (112, am_ild 5 2), (114, am_icmp 0 188), (117, am_ald 0 1), (118, am_ild 3 1), (119, am_ild 4 2), (121, am_ild 8 2), (123, am_callV am_Y 9 96 3), (126, am_callS 127 1), (129, am_ild 2 1), (130, am_imul), (131, am_if 2 173), (134, am_ald 0 1), (135, am_ild 4 2), (137, am_ild 5 2), (139, am_ild 8 2), (141, am_callV am_Y 9 96 3), (144, am_callS 127 1), (147, am_ild 2 1), (148, am_imul), (149, am_if 2 173), (152, am_ald 0 1), (153, am_ild 5 2), (155, am_ild 3 1), (156, am_ild 8 2), (158, am_callV am_Y 9 96 3), (161, am_callS 127 1), (164, am_ild 2 1), (165, am_imul), (166, am_if 2 173), (169, am_ic 1 1), (170, am_goto 174), (173, am_ic 0 1), (174, am_ist 9 2), (176, am_ild 9 2), (178, am_if 1 185), (181, am_ic 1 1), (182, am_goto 186), (185, am_ic 0 1), (186, am_ist 6 2), (188, am_inc 7 (1)), (191, am_goto 64), (194, am_ild 6 2), (196, am_zret)]
set_option maxRecDepth 100000 in
set_option maxHeartbeats 4000000 in
theorem T_Mo_isEar : am_T am_Y am_cl am_Gw am_mi 146 b_Mo_isEar := by
  intro E A p l e s m args below meth c Rt X hr
  refine List.forall_mem_cons.mpr ⟨am_aload_n_ok (k := 0) X (by decide +kernel), ?_⟩
  refine List.forall_mem_cons.mpr ⟨am_get_ok (C := R_Mo) (T := F_Mo) (N := 13) (idx := 16) X rfl (by decide) (fun w h => List.mem_cons_of_mem _ (u_Mo w h)) (List.mem_cons_of_mem _ w_Mo_16) (by decide +kernel), ?_⟩
  refine List.forall_mem_cons.mpr ⟨am_aload_n_ok (k := 0) X (by decide +kernel), ?_⟩
  refine List.forall_mem_cons.mpr ⟨am_iload_n_ok (k := 1) X (by decide +kernel), ?_⟩
  refine List.forall_mem_cons.mpr ⟨am_aload_n_ok (k := 0) X (by decide +kernel), ?_⟩
  refine List.forall_mem_cons.mpr ⟨am_get_ok (C := R_Mo) (T := F_Mo) (N := 13) (idx := 52) X rfl (by decide) (fun w h => List.mem_cons_of_mem _ (u_Mo w h)) (List.mem_cons_of_mem _ w_Mo_52) (by decide +kernel), ?_⟩
  refine List.forall_mem_cons.mpr ⟨am_iconst_ok X (by decide +kernel), ?_⟩
  refine List.forall_mem_cons.mpr ⟨am_isub_ok X (by decide +kernel), ?_⟩
  refine List.forall_mem_cons.mpr ⟨am_callV_ok (C := R_Mo) (T := F_Mo) (N := 13) (idx := 163) X rfl (am_GV m_Mo_163 v_Mo_leftFrom.1 v_Mo_leftFrom.2.1 v_Mo_leftFrom.2.2.1 v_Mo_leftFrom.2.2.2) ⟨rfl, v_Mo_leftFromd⟩ ⟨by decide, by decide⟩ (Nat.zero_le _) (by decide +kernel), ?_⟩
  refine List.forall_mem_cons.mpr ⟨am_iald_ok X am_Y0 (by decide +kernel), ?_⟩
  refine List.forall_mem_cons.mpr ⟨am_istore_n_ok (k := 3) X (by decide) (by decide +kernel), ?_⟩
  refine List.forall_mem_cons.mpr ⟨am_aload_n_ok (k := 0) X (by decide +kernel), ?_⟩
  refine List.forall_mem_cons.mpr ⟨am_get_ok (C := R_Mo) (T := F_Mo) (N := 13) (idx := 16) X rfl (by decide) (fun w h => List.mem_cons_of_mem _ (u_Mo w h)) (List.mem_cons_of_mem _ w_Mo_16) (by decide +kernel), ?_⟩
  refine List.forall_mem_cons.mpr ⟨am_iload_n_ok (k := 1) X (by decide +kernel), ?_⟩
  refine List.forall_mem_cons.mpr ⟨am_iald_ok X am_Y0 (by decide +kernel), ?_⟩
  refine List.forall_mem_cons.mpr ⟨am_istore_ok X (by decide) (by decide +kernel), ?_⟩
  refine List.forall_mem_cons.mpr ⟨am_aload_n_ok (k := 0) X (by decide +kernel), ?_⟩
  refine List.forall_mem_cons.mpr ⟨am_get_ok (C := R_Mo) (T := F_Mo) (N := 13) (idx := 16) X rfl (by decide) (fun w h => List.mem_cons_of_mem _ (u_Mo w h)) (List.mem_cons_of_mem _ w_Mo_16) (by decide +kernel), ?_⟩
  refine List.forall_mem_cons.mpr ⟨am_aload_n_ok (k := 0) X (by decide +kernel), ?_⟩
  refine List.forall_mem_cons.mpr ⟨am_iload_n_ok (k := 1) X (by decide +kernel), ?_⟩
  refine List.forall_mem_cons.mpr ⟨am_iconst_ok X (by decide +kernel), ?_⟩
  refine List.forall_mem_cons.mpr ⟨am_callV_ok (C := R_Mo) (T := F_Mo) (N := 13) (idx := 163) X rfl (am_GV m_Mo_163 v_Mo_leftFrom.1 v_Mo_leftFrom.2.1 v_Mo_leftFrom.2.2.1 v_Mo_leftFrom.2.2.2) ⟨rfl, v_Mo_leftFromd⟩ ⟨by decide, by decide⟩ (Nat.zero_le _) (by decide +kernel), ?_⟩
  refine List.forall_mem_cons.mpr ⟨am_iald_ok X am_Y0 (by decide +kernel), ?_⟩
  refine List.forall_mem_cons.mpr ⟨am_istore_ok X (by decide) (by decide +kernel), ?_⟩
  refine List.forall_mem_cons.mpr ⟨am_aload_n_ok (k := 0) X (by decide +kernel), ?_⟩
  refine List.forall_mem_cons.mpr ⟨am_iload_n_ok (k := 3) X (by decide +kernel), ?_⟩
  refine List.forall_mem_cons.mpr ⟨am_iload_ok X (by decide +kernel), ?_⟩
  refine List.forall_mem_cons.mpr ⟨am_iload_ok X (by decide +kernel), ?_⟩
  refine List.forall_mem_cons.mpr ⟨am_callV_ok (C := R_Mo) (T := F_Mo) (N := 13) (idx := 76) X rfl (am_GV m_Mo_76 v_Mo_turnOf.1 v_Mo_turnOf.2.1 v_Mo_turnOf.2.2.1 v_Mo_turnOf.2.2.2) ⟨rfl, v_Mo_turnOfd⟩ ⟨by decide, by decide⟩ (Nat.zero_le _) (by decide +kernel), ?_⟩
  refine List.forall_mem_cons.mpr ⟨am_callS_ok (idx := 137) X (am_GS m_Mo_137 v_Mo_signOf.1 v_Mo_signOf.2.1 v_Mo_signOf.2.2) ⟨rfl, v_Mo_signOfd⟩ ⟨by decide, by decide⟩ (by decide +kernel), ?_⟩
  refine List.forall_mem_cons.mpr ⟨am_iload_n_ok (k := 2) X (by decide +kernel), ?_⟩
  refine List.forall_mem_cons.mpr ⟨am_icmp_ne_ok (off := 7) X (by decide +kernel) (by decide), ?_⟩
  refine List.forall_mem_cons.mpr ⟨am_iconst_ok X (by decide +kernel), ?_⟩
  refine List.forall_mem_cons.mpr ⟨am_goto_ok (off := 4) X (by decide +kernel) (by decide), ?_⟩
  refine List.forall_mem_cons.mpr ⟨am_iconst_ok X (by decide +kernel), ?_⟩
  refine List.forall_mem_cons.mpr ⟨am_istore_ok X (by decide) (by decide +kernel), ?_⟩
  refine List.forall_mem_cons.mpr ⟨am_iconst_ok X (by decide +kernel), ?_⟩
  refine List.forall_mem_cons.mpr ⟨am_istore_ok X (by decide) (by decide +kernel), ?_⟩
  refine List.forall_mem_cons.mpr ⟨am_iload_ok X (by decide +kernel), ?_⟩
  refine List.forall_mem_cons.mpr ⟨am_aload_n_ok (k := 0) X (by decide +kernel), ?_⟩
  refine List.forall_mem_cons.mpr ⟨am_get_ok (C := R_Mo) (T := F_Mo) (N := 13) (idx := 52) X rfl (by decide) (fun w h => List.mem_cons_of_mem _ (u_Mo w h)) (List.mem_cons_of_mem _ w_Mo_52) (by decide +kernel), ?_⟩
  refine List.forall_mem_cons.mpr ⟨am_icmp_ge_ok (off := 124) X (by decide +kernel) (by decide), ?_⟩
  refine List.forall_mem_cons.mpr ⟨am_iload_ok X (by decide +kernel), ?_⟩
  refine List.forall_mem_cons.mpr ⟨am_if_eq_ok (off := 119) X (by decide +kernel) (by decide), ?_⟩
  refine List.forall_mem_cons.mpr ⟨am_aload_n_ok (k := 0) X (by decide +kernel), ?_⟩
  refine List.forall_mem_cons.mpr ⟨am_get_ok (C := R_Mo) (T := F_Mo) (N := 13) (idx := 16) X rfl (by decide) (fun w h => List.mem_cons_of_mem _ (u_Mo w h)) (List.mem_cons_of_mem _ w_Mo_16) (by decide +kernel), ?_⟩
  refine List.forall_mem_cons.mpr ⟨am_iload_ok X (by decide +kernel), ?_⟩
  refine List.forall_mem_cons.mpr ⟨am_iald_ok X am_Y0 (by decide +kernel), ?_⟩
  refine List.forall_mem_cons.mpr ⟨am_istore_ok X (by decide) (by decide +kernel), ?_⟩
  refine List.forall_mem_cons.mpr ⟨am_aload_n_ok (k := 0) X (by decide +kernel), ?_⟩
  refine List.forall_mem_cons.mpr ⟨am_get_ok (C := R_Mo) (T := F_Mo) (N := 13) (idx := 36) X rfl (by decide) (fun w h => List.mem_cons_of_mem _ (u_Mo w h)) (List.mem_cons_of_mem _ w_Mo_36) (by decide +kernel), ?_⟩
  refine List.forall_mem_cons.mpr ⟨am_iload_ok X (by decide +kernel), ?_⟩
  refine List.forall_mem_cons.mpr ⟨am_zald_ok X am_Y0 (by decide +kernel), ?_⟩
  refine List.forall_mem_cons.mpr ⟨am_if_ne_ok (off := 94) X (by decide +kernel) (by decide), ?_⟩
  refine List.forall_mem_cons.mpr ⟨am_iload_ok X (by decide +kernel), ?_⟩
  refine List.forall_mem_cons.mpr ⟨am_iload_n_ok (k := 3) X (by decide +kernel), ?_⟩
  refine List.forall_mem_cons.mpr ⟨am_icmp_eq_ok (off := 88) X (by decide +kernel) (by decide), ?_⟩
  refine List.forall_mem_cons.mpr ⟨am_iload_ok X (by decide +kernel), ?_⟩
  refine List.forall_mem_cons.mpr ⟨am_iload_ok X (by decide +kernel), ?_⟩
  refine List.forall_mem_cons.mpr ⟨am_icmp_eq_ok (off := 81) X (by decide +kernel) (by decide), ?_⟩
  refine List.forall_mem_cons.mpr ⟨am_iload_ok X (by decide +kernel), ?_⟩
  refine List.forall_mem_cons.mpr ⟨am_iload_ok X (by decide +kernel), ?_⟩
  refine List.forall_mem_cons.mpr ⟨am_icmp_eq_ok (off := 74) X (by decide +kernel) (by decide), ?_⟩
  refine List.forall_mem_cons.mpr ⟨am_aload_n_ok (k := 0) X (by decide +kernel), ?_⟩
  refine List.forall_mem_cons.mpr ⟨am_iload_n_ok (k := 3) X (by decide +kernel), ?_⟩
  refine List.forall_mem_cons.mpr ⟨am_iload_ok X (by decide +kernel), ?_⟩
  refine List.forall_mem_cons.mpr ⟨am_iload_ok X (by decide +kernel), ?_⟩
  refine List.forall_mem_cons.mpr ⟨am_callV_ok (C := R_Mo) (T := F_Mo) (N := 13) (idx := 76) X rfl (am_GV m_Mo_76 v_Mo_turnOf.1 v_Mo_turnOf.2.1 v_Mo_turnOf.2.2.1 v_Mo_turnOf.2.2.2) ⟨rfl, v_Mo_turnOfd⟩ ⟨by decide, by decide⟩ (Nat.zero_le _) (by decide +kernel), ?_⟩
  refine List.forall_mem_cons.mpr ⟨am_callS_ok (idx := 137) X (am_GS m_Mo_137 v_Mo_signOf.1 v_Mo_signOf.2.1 v_Mo_signOf.2.2) ⟨rfl, v_Mo_signOfd⟩ ⟨by decide, by decide⟩ (by decide +kernel), ?_⟩
  refine List.forall_mem_cons.mpr ⟨am_iload_n_ok (k := 2) X (by decide +kernel), ?_⟩
  refine List.forall_mem_cons.mpr ⟨am_imul_ok X (by decide +kernel), ?_⟩
  refine List.forall_mem_cons.mpr ⟨am_if_lt_ok (off := 42) X (by decide +kernel) (by decide), ?_⟩
  refine List.forall_mem_cons.mpr ⟨am_aload_n_ok (k := 0) X (by decide +kernel), ?_⟩
  refine List.forall_mem_cons.mpr ⟨am_iload_ok X (by decide +kernel), ?_⟩
  refine List.forall_mem_cons.mpr ⟨am_iload_ok X (by decide +kernel), ?_⟩
  refine List.forall_mem_cons.mpr ⟨am_iload_ok X (by decide +kernel), ?_⟩
  refine List.forall_mem_cons.mpr ⟨am_callV_ok (C := R_Mo) (T := F_Mo) (N := 13) (idx := 76) X rfl (am_GV m_Mo_76 v_Mo_turnOf.1 v_Mo_turnOf.2.1 v_Mo_turnOf.2.2.1 v_Mo_turnOf.2.2.2) ⟨rfl, v_Mo_turnOfd⟩ ⟨by decide, by decide⟩ (Nat.zero_le _) (by decide +kernel), ?_⟩
  refine List.forall_mem_cons.mpr ⟨am_callS_ok (idx := 137) X (am_GS m_Mo_137 v_Mo_signOf.1 v_Mo_signOf.2.1 v_Mo_signOf.2.2) ⟨rfl, v_Mo_signOfd⟩ ⟨by decide, by decide⟩ (by decide +kernel), ?_⟩
  refine List.forall_mem_cons.mpr ⟨am_iload_n_ok (k := 2) X (by decide +kernel), ?_⟩
  refine List.forall_mem_cons.mpr ⟨am_imul_ok X (by decide +kernel), ?_⟩
  refine List.forall_mem_cons.mpr ⟨am_if_lt_ok (off := 24) X (by decide +kernel) (by decide), ?_⟩
  refine List.forall_mem_cons.mpr ⟨am_aload_n_ok (k := 0) X (by decide +kernel), ?_⟩
  refine List.forall_mem_cons.mpr ⟨am_iload_ok X (by decide +kernel), ?_⟩
  refine List.forall_mem_cons.mpr ⟨am_iload_n_ok (k := 3) X (by decide +kernel), ?_⟩
  refine List.forall_mem_cons.mpr ⟨am_iload_ok X (by decide +kernel), ?_⟩
  refine List.forall_mem_cons.mpr ⟨am_callV_ok (C := R_Mo) (T := F_Mo) (N := 13) (idx := 76) X rfl (am_GV m_Mo_76 v_Mo_turnOf.1 v_Mo_turnOf.2.1 v_Mo_turnOf.2.2.1 v_Mo_turnOf.2.2.2) ⟨rfl, v_Mo_turnOfd⟩ ⟨by decide, by decide⟩ (Nat.zero_le _) (by decide +kernel), ?_⟩
  refine List.forall_mem_cons.mpr ⟨am_callS_ok (idx := 137) X (am_GS m_Mo_137 v_Mo_signOf.1 v_Mo_signOf.2.1 v_Mo_signOf.2.2) ⟨rfl, v_Mo_signOfd⟩ ⟨by decide, by decide⟩ (by decide +kernel), ?_⟩
  refine List.forall_mem_cons.mpr ⟨am_iload_n_ok (k := 2) X (by decide +kernel), ?_⟩
  refine List.forall_mem_cons.mpr ⟨am_imul_ok X (by decide +kernel), ?_⟩
  refine List.forall_mem_cons.mpr ⟨am_if_lt_ok (off := 7) X (by decide +kernel) (by decide), ?_⟩
  refine List.forall_mem_cons.mpr ⟨am_iconst_ok X (by decide +kernel), ?_⟩
  refine List.forall_mem_cons.mpr ⟨am_goto_ok (off := 4) X (by decide +kernel) (by decide), ?_⟩
  refine List.forall_mem_cons.mpr ⟨am_iconst_ok X (by decide +kernel), ?_⟩
  refine List.forall_mem_cons.mpr ⟨am_istore_ok X (by decide) (by decide +kernel), ?_⟩
  refine List.forall_mem_cons.mpr ⟨am_iload_ok X (by decide +kernel), ?_⟩
  refine List.forall_mem_cons.mpr ⟨am_if_ne_ok (off := 7) X (by decide +kernel) (by decide), ?_⟩
  refine List.forall_mem_cons.mpr ⟨am_iconst_ok X (by decide +kernel), ?_⟩
  refine List.forall_mem_cons.mpr ⟨am_goto_ok (off := 4) X (by decide +kernel) (by decide), ?_⟩
  refine List.forall_mem_cons.mpr ⟨am_iconst_ok X (by decide +kernel), ?_⟩
  refine List.forall_mem_cons.mpr ⟨am_istore_ok X (by decide) (by decide +kernel), ?_⟩
  refine List.forall_mem_cons.mpr ⟨am_iinc_ok X (by decide) (by decide +kernel), ?_⟩
  refine List.forall_mem_cons.mpr ⟨am_goto_ok (off := -127) X (by decide +kernel) (by decide), ?_⟩
  refine List.forall_mem_cons.mpr ⟨am_iload_ok X (by decide +kernel), ?_⟩
  refine List.forall_mem_cons.mpr ⟨am_zret_ok X hr (by decide +kernel), ?_⟩
  exact fun _ h => absurd h List.not_mem_nil
