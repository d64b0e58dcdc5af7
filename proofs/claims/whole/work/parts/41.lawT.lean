/-! printed: the law's tables -/
abbrev ltb_h (len : Nat) (xs : Nat → Int32) : AT := [(23, am_ild 4 2), (25, am_ald 0 1), (26, lj_len len), (27, am_ic 4 1), (28, am_isub), (29, am_icmp 4 1047), (32, am_ald 0 1), (33, am_ild 4 2), (35, lj_sld len xs), (36, am_ic 31 2), (38, lj_and), (39, am_tsw 0 24 1041 [152, 189, 202, 227, 295, 320, 334, 359, 384, 451, 476, 543, 611, 679, 759, 784, 797, 822, 870, 883, 908, 921, 935, 1003, 1028]), (1041, am_inc 4 4), (1044, am_goto 23), (1047, am_ic 1 1), (1048, lj_end)]
set_option maxRecDepth 100000 in
set_option maxHeartbeats 4000000 in
theorem Lltb_h {E : AE} {l : Launch} {p : Program} {e : Env} {s : State} {m : MethodId} {below : List Frame} {meth : Method} {c : Code} {n len : Nat} {xs : Nat → Int32} {Rt : AR} (C : lj_C E p s m meth c len xs) (hn : n ≤ 513) : ∀ q ∈ ltb_h len xs, am_sd (am_g E l) (lj_J E l p e s m below meth c n) Rt q.2 q.1 := by
  refine List.forall_mem_cons.mpr ⟨am_iload_ok C.1 (by decide +kernel), ?_⟩
  refine List.forall_mem_cons.mpr ⟨am_aload_n_ok (k := 0) C.1 (by decide +kernel), ?_⟩
  refine List.forall_mem_cons.mpr ⟨lj_len_ok (pc := 26) C (by decide +kernel), ?_⟩
  refine List.forall_mem_cons.mpr ⟨am_iconst_ok C.1 (by decide +kernel), ?_⟩
  refine List.forall_mem_cons.mpr ⟨am_isub_ok C.1 (by decide +kernel), ?_⟩
  refine List.forall_mem_cons.mpr ⟨am_icmp_gt_ok (off := 1018) C.1 (by decide +kernel) (by decide), ?_⟩
  refine List.forall_mem_cons.mpr ⟨am_aload_n_ok (k := 0) C.1 (by decide +kernel), ?_⟩
  refine List.forall_mem_cons.mpr ⟨am_iload_ok C.1 (by decide +kernel), ?_⟩
  refine List.forall_mem_cons.mpr ⟨lj_sld_ok (pc := 35) C (by decide +kernel), ?_⟩
  refine List.forall_mem_cons.mpr ⟨am_bipush_ok C.1 (by decide +kernel) (by decide), ?_⟩
  refine List.forall_mem_cons.mpr ⟨lj_and_ok C (by decide +kernel), ?_⟩
  refine List.forall_mem_cons.mpr ⟨am_tsw_ok C.1 (dflt := 1002) (offs := #[113, 150, 163, 188, 256, 281, 295, 320, 345, 412, 437, 504, 572, 640, 720, 745, 758, 783, 831, 844, 869, 882, 896, 964, 989]) (len := 113) (by decide +kernel) (by decide) (by decide) (by decide), ?_⟩
  refine List.forall_mem_cons.mpr ⟨am_iinc_ok C.1 (by decide) (by decide +kernel), ?_⟩
  refine List.forall_mem_cons.mpr ⟨am_goto_ok (off := -1021) C.1 (by decide +kernel) (by decide), ?_⟩
  refine List.forall_mem_cons.mpr ⟨am_iconst_ok C.1 (by decide +kernel), ?_⟩
  refine List.forall_mem_cons.mpr ⟨lj_end_ok C hn (by decide +kernel), ?_⟩
  exact fun _ h => absurd h List.not_mem_nil
abbrev ltb_0 (len : Nat) (xs : Nat → Int32) : AT := [(152, am_ald 1 1), (153, am_ald 0 1), (154, am_ild 4 2), (156, am_ic 1 1), (157, am_iadd), (158, lj_sld len xs), (159, am_ald 0 1), (160, am_ild 4 2), (162, am_ic 2 1), (163, am_iadd), (164, lj_sld len xs), (165, am_callV am_Y 8 2 2), (168, am_ald 2 1), (169, am_ald 0 1), (170, am_ild 4 2), (172, am_ic 1 1), (173, am_iadd), (174, lj_sld len xs), (175, am_ald 0 1), (176, am_ild 4 2), (178, am_ic 2 1), (179, am_iadd), (180, lj_sld len xs), (181, am_callV am_Y 9 93 2), (184, am_icmp 0 1041), (187, am_ic 0 1)]
set_option maxRecDepth 100000 in
set_option maxHeartbeats 4000000 in
theorem Lltb_0 {E : AE} {l : Launch} {p : Program} {e : Env} {s : State} {m : MethodId} {below : List Frame} {meth : Method} {c : Code} {n len : Nat} {xs : Nat → Int32} {Rt : AR} (C : lj_C E p s m meth c len xs) (hn : n ≤ 513) : ∀ q ∈ ltb_0 len xs, am_sd (am_g E l) (lj_J E l p e s m below meth c n) Rt q.2 q.1 := by
  refine List.forall_mem_cons.mpr ⟨am_aload_n_ok (k := 1) C.1 (by decide +kernel), ?_⟩
  refine List.forall_mem_cons.mpr ⟨am_aload_n_ok (k := 0) C.1 (by decide +kernel), ?_⟩
  refine List.forall_mem_cons.mpr ⟨am_iload_ok C.1 (by decide +kernel), ?_⟩
  refine List.forall_mem_cons.mpr ⟨am_iconst_ok C.1 (by decide +kernel), ?_⟩
  refine List.forall_mem_cons.mpr ⟨am_iadd_ok C.1 (by decide +kernel), ?_⟩
  refine List.forall_mem_cons.mpr ⟨lj_sld_ok (pc := 158) C (by decide +kernel), ?_⟩
  refine List.forall_mem_cons.mpr ⟨am_aload_n_ok (k := 0) C.1 (by decide +kernel), ?_⟩
  refine List.forall_mem_cons.mpr ⟨am_iload_ok C.1 (by decide +kernel), ?_⟩
  refine List.forall_mem_cons.mpr ⟨am_iconst_ok C.1 (by decide +kernel), ?_⟩
  refine List.forall_mem_cons.mpr ⟨am_iadd_ok C.1 (by decide +kernel), ?_⟩
  refine List.forall_mem_cons.mpr ⟨lj_sld_ok (pc := 164) C (by decide +kernel), ?_⟩
  refine List.forall_mem_cons.mpr ⟨am_callVc_ok (C := R_De) (T := F_De) (N := 7) (idx := 45) C.1 rfl (am_GV mL_45 v_De_add.1 v_De_add.2.1 v_De_add.2.2.1 v_De_add.2.2.2) ⟨rfl, v_De_addd⟩ ⟨by decide, by decide⟩ ⟨show 35 + n ≤ 1065 by omega, show 1794 + 6 * n ≤ 10022 by omega⟩ (by decide +kernel), ?_⟩
  refine List.forall_mem_cons.mpr ⟨am_aload_n_ok (k := 2) C.1 (by decide +kernel), ?_⟩
  refine List.forall_mem_cons.mpr ⟨am_aload_n_ok (k := 0) C.1 (by decide +kernel), ?_⟩
  refine List.forall_mem_cons.mpr ⟨am_iload_ok C.1 (by decide +kernel), ?_⟩
  refine List.forall_mem_cons.mpr ⟨am_iconst_ok C.1 (by decide +kernel), ?_⟩
  refine List.forall_mem_cons.mpr ⟨am_iadd_ok C.1 (by decide +kernel), ?_⟩
  refine List.forall_mem_cons.mpr ⟨lj_sld_ok (pc := 174) C (by decide +kernel), ?_⟩
  refine List.forall_mem_cons.mpr ⟨am_aload_n_ok (k := 0) C.1 (by decide +kernel), ?_⟩
  refine List.forall_mem_cons.mpr ⟨am_iload_ok C.1 (by decide +kernel), ?_⟩
  refine List.forall_mem_cons.mpr ⟨am_iconst_ok C.1 (by decide +kernel), ?_⟩
  refine List.forall_mem_cons.mpr ⟨am_iadd_ok C.1 (by decide +kernel), ?_⟩
  refine List.forall_mem_cons.mpr ⟨lj_sld_ok (pc := 180) C (by decide +kernel), ?_⟩
  refine List.forall_mem_cons.mpr ⟨am_callVc_ok (C := R_Mo) (T := F_Mo) (N := 13) (idx := 48) C.1 rfl (am_GV mL_48 v_Mo_add.1 v_Mo_add.2.1 v_Mo_add.2.2.1 v_Mo_add.2.2.2) ⟨rfl, v_Mo_addd⟩ ⟨by decide, by decide⟩ ⟨show 35 + n ≤ 1065 by omega, show 1794 + 6 * n ≤ 10022 by omega⟩ (by decide +kernel), ?_⟩
  refine List.forall_mem_cons.mpr ⟨am_icmp_eq_ok (off := 857) C.1 (by decide +kernel) (by decide), ?_⟩
  refine List.forall_mem_cons.mpr ⟨am_iconst_ok C.1 (by decide +kernel), ?_⟩
  exact fun _ h => absurd h List.not_mem_nil
abbrev ltb_1 (len : Nat) (xs : Nat → Int32) : AT := [(189, am_ald 1 1), (190, am_callV am_Y 8 5 0), (193, am_ald 2 1), (194, am_callV am_Y 9 94 0), (197, am_icmp 0 1041), (200, am_ic 0 1)]
set_option maxRecDepth 100000 in
set_option maxHeartbeats 4000000 in
theorem Lltb_1 {E : AE} {l : Launch} {p : Program} {e : Env} {s : State} {m : MethodId} {below : List Frame} {meth : Method} {c : Code} {n len : Nat} {xs : Nat → Int32} {Rt : AR} (C : lj_C E p s m meth c len xs) (hn : n ≤ 513) : ∀ q ∈ ltb_1 len xs, am_sd (am_g E l) (lj_J E l p e s m below meth c n) Rt q.2 q.1 := by
  refine List.forall_mem_cons.mpr ⟨am_aload_n_ok (k := 1) C.1 (by decide +kernel), ?_⟩
  refine List.forall_mem_cons.mpr ⟨am_callVc_ok (C := R_De) (T := F_De) (N := 7) (idx := 49) C.1 rfl (am_GV mL_49 v_De_clear.1 v_De_clear.2.1 v_De_clear.2.2.1 v_De_clear.2.2.2) ⟨rfl, v_De_cleard⟩ ⟨by decide, by decide⟩ ⟨show 35 + n ≤ 1065 by omega, show 1794 + 6 * n ≤ 10022 by omega⟩ (by decide +kernel), ?_⟩
  refine List.forall_mem_cons.mpr ⟨am_aload_n_ok (k := 2) C.1 (by decide +kernel), ?_⟩
  refine List.forall_mem_cons.mpr ⟨am_callVc_ok (C := R_Mo) (T := F_Mo) (N := 13) (idx := 53) C.1 rfl (am_GV mL_53 v_Mo_clear.1 v_Mo_clear.2.1 v_Mo_clear.2.2.1 v_Mo_clear.2.2.2) ⟨rfl, v_Mo_cleard⟩ ⟨by decide, by decide⟩ ⟨show 35 + n ≤ 1065 by omega, show 1794 + 6 * n ≤ 10022 by omega⟩ (by decide +kernel), ?_⟩
  refine List.forall_mem_cons.mpr ⟨am_icmp_eq_ok (off := 844) C.1 (by decide +kernel) (by decide), ?_⟩
  refine List.forall_mem_cons.mpr ⟨am_iconst_ok C.1 (by decide +kernel), ?_⟩
  exact fun _ h => absurd h List.not_mem_nil
abbrev ltb_2 (len : Nat) (xs : Nat → Int32) : AT := [(202, am_ald 1 1), (203, am_ald 0 1), (204, am_ild 4 2), (206, am_ic 1 1), (207, am_iadd), (208, lj_sld len xs), (209, am_callV am_Y 8 26 1), (212, am_ald 2 1), (213, am_ald 0 1), (214, am_ild 4 2), (216, am_ic 1 1), (217, am_iadd), (218, lj_sld len xs), (219, am_callV am_Y 9 109 1), (222, am_icmp 0 1041), (225, am_ic 0 1)]
set_option maxRecDepth 100000 in
set_option maxHeartbeats 4000000 in
theorem Lltb_2 {E : AE} {l : Launch} {p : Program} {e : Env} {s : State} {m : MethodId} {below : List Frame} {meth : Method} {c : Code} {n len : Nat} {xs : Nat → Int32} {Rt : AR} (C : lj_C E p s m meth c len xs) (hn : n ≤ 513) : ∀ q ∈ ltb_2 len xs, am_sd (am_g E l) (lj_J E l p e s m below meth c n) Rt q.2 q.1 := by
  refine List.forall_mem_cons.mpr ⟨am_aload_n_ok (k := 1) C.1 (by decide +kernel), ?_⟩
  refine List.forall_mem_cons.mpr ⟨am_aload_n_ok (k := 0) C.1 (by decide +kernel), ?_⟩
  refine List.forall_mem_cons.mpr ⟨am_iload_ok C.1 (by decide +kernel), ?_⟩
  refine List.forall_mem_cons.mpr ⟨am_iconst_ok C.1 (by decide +kernel), ?_⟩
  refine List.forall_mem_cons.mpr ⟨am_iadd_ok C.1 (by decide +kernel), ?_⟩
  refine List.forall_mem_cons.mpr ⟨lj_sld_ok (pc := 208) C (by decide +kernel), ?_⟩
  refine List.forall_mem_cons.mpr ⟨am_callVc_ok (C := R_De) (T := F_De) (N := 7) (idx := 54) C.1 rfl (am_GV mL_54 v_De_count.1 v_De_count.2.1 v_De_count.2.2.1 v_De_count.2.2.2) ⟨rfl, v_De_countd⟩ ⟨by decide, by decide⟩ ⟨show 35 + n ≤ 1065 by omega, show 1794 + 6 * n ≤ 10022 by omega⟩ (by decide +kernel), ?_⟩
  refine List.forall_mem_cons.mpr ⟨am_aload_n_ok (k := 2) C.1 (by decide +kernel), ?_⟩
  refine List.forall_mem_cons.mpr ⟨am_aload_n_ok (k := 0) C.1 (by decide +kernel), ?_⟩
  refine List.forall_mem_cons.mpr ⟨am_iload_ok C.1 (by decide +kernel), ?_⟩
  refine List.forall_mem_cons.mpr ⟨am_iconst_ok C.1 (by decide +kernel), ?_⟩
  refine List.forall_mem_cons.mpr ⟨am_iadd_ok C.1 (by decide +kernel), ?_⟩
  refine List.forall_mem_cons.mpr ⟨lj_sld_ok (pc := 218) C (by decide +kernel), ?_⟩
  refine List.forall_mem_cons.mpr ⟨am_callVc_ok (C := R_Mo) (T := F_Mo) (N := 13) (idx := 58) C.1 rfl (am_GV mL_58 v_Mo_count.1 v_Mo_count.2.1 v_Mo_count.2.2.1 v_Mo_count.2.2.2) ⟨rfl, v_Mo_countd⟩ ⟨by decide, by decide⟩ ⟨show 35 + n ≤ 1065 by omega, show 1794 + 6 * n ≤ 10022 by omega⟩ (by decide +kernel), ?_⟩
  refine List.forall_mem_cons.mpr ⟨am_icmp_eq_ok (off := 819) C.1 (by decide +kernel) (by decide), ?_⟩
  refine List.forall_mem_cons.mpr ⟨am_iconst_ok C.1 (by decide +kernel), ?_⟩
  exact fun _ h => absurd h List.not_mem_nil
abbrev ltb_3 (len : Nat) (xs : Nat → Int32) : AT := [(227, am_ald 1 1), (228, am_ald 0 1), (229, am_ild 4 2), (231, am_ic 1 1), (232, am_iadd), (233, lj_sld len xs), (234, am_ald 0 1), (235, am_ild 4 2), (237, am_ic 2 1), (238, am_iadd), (239, lj_sld len xs), (240, am_ald 3 1), (244, am_ist 5 2), (246, am_ald 2 1), (247, am_ald 0 1), (248, am_ild 4 2), (250, am_ic 1 1), (251, am_iadd), (252, lj_sld len xs), (253, am_ald 0 1), (254, am_ild 4 2), (256, am_ic 2 1), (257, am_iadd), (258, lj_sld len xs), (259, am_callV am_Y 9 111 2), (262, am_ist 6 2), (264, am_ald 2 1), (265, am_callV am_Y 9 91 0), (268, am_ild 5 2), (270, am_icmp 0 275), (273, am_ic 0 1), (275, am_ild 5 2), (277, am_if 1 292), (280, am_ald 3 1), (281, am_ic 0 1), (282, am_lald am_Y), (283, am_ild 6 2), (285, am_i2l), (286, am_lcmp 0 292), (290, am_ic 0 1), (292, am_goto 1041)]
set_option maxRecDepth 100000 in
set_option maxHeartbeats 4000000 in
theorem Lltb_3 {E : AE} {l : Launch} {p : Program} {e : Env} {s : State} {m : MethodId} {below : List Frame} {meth : Method} {c : Code} {n len : Nat} {xs : Nat → Int32} {Rt : AR} (C : lj_C E p s m meth c len xs) (hn : n ≤ 513) : ∀ q ∈ ltb_3 len xs, am_sd (am_g E l) (lj_J E l p e s m below meth c n) Rt q.2 q.1 := by
  refine List.forall_mem_cons.mpr ⟨am_aload_n_ok (k := 1) C.1 (by decide +kernel), ?_⟩
  refine List.forall_mem_cons.mpr ⟨am_aload_n_ok (k := 0) C.1 (by decide +kernel), ?_⟩
  refine List.forall_mem_cons.mpr ⟨am_iload_ok C.1 (by decide +kernel), ?_⟩
  refine List.forall_mem_cons.mpr ⟨am_iconst_ok C.1 (by decide +kernel), ?_⟩
  refine List.forall_mem_cons.mpr ⟨am_iadd_ok C.1 (by decide +kernel), ?_⟩
  refine List.forall_mem_cons.mpr ⟨lj_sld_ok (pc := 233) C (by decide +kernel), ?_⟩
  refine List.forall_mem_cons.mpr ⟨am_aload_n_ok (k := 0) C.1 (by decide +kernel), ?_⟩
  refine List.forall_mem_cons.mpr ⟨am_iload_ok C.1 (by decide +kernel), ?_⟩
  refine List.forall_mem_cons.mpr ⟨am_iconst_ok C.1 (by decide +kernel), ?_⟩
  refine List.forall_mem_cons.mpr ⟨am_iadd_ok C.1 (by decide +kernel), ?_⟩
  refine List.forall_mem_cons.mpr ⟨lj_sld_ok (pc := 239) C (by decide +kernel), ?_⟩
  refine List.forall_mem_cons.mpr ⟨am_aload_n_ok (k := 3) C.1 (by decide +kernel), ?_⟩
  refine List.forall_mem_cons.mpr ⟨am_istore_ok C.1 (by decide) (by decide +kernel), ?_⟩
  refine List.forall_mem_cons.mpr ⟨am_aload_n_ok (k := 2) C.1 (by decide +kernel), ?_⟩
  refine List.forall_mem_cons.mpr ⟨am_aload_n_ok (k := 0) C.1 (by decide +kernel), ?_⟩
  refine List.forall_mem_cons.mpr ⟨am_iload_ok C.1 (by decide +kernel), ?_⟩
  refine List.forall_mem_cons.mpr ⟨am_iconst_ok C.1 (by decide +kernel), ?_⟩
  refine List.forall_mem_cons.mpr ⟨am_iadd_ok C.1 (by decide +kernel), ?_⟩
  refine List.forall_mem_cons.mpr ⟨lj_sld_ok (pc := 252) C (by decide +kernel), ?_⟩
  refine List.forall_mem_cons.mpr ⟨am_aload_n_ok (k := 0) C.1 (by decide +kernel), ?_⟩
  refine List.forall_mem_cons.mpr ⟨am_iload_ok C.1 (by decide +kernel), ?_⟩
  refine List.forall_mem_cons.mpr ⟨am_iconst_ok C.1 (by decide +kernel), ?_⟩
  refine List.forall_mem_cons.mpr ⟨am_iadd_ok C.1 (by decide +kernel), ?_⟩
  refine List.forall_mem_cons.mpr ⟨lj_sld_ok (pc := 258) C (by decide +kernel), ?_⟩
  refine List.forall_mem_cons.mpr ⟨am_callVc_ok (C := R_Mo) (T := F_Mo) (N := 13) (idx := 64) C.1 rfl (am_GV mL_64 v_Mo_at.1 v_Mo_at.2.1 v_Mo_at.2.2.1 v_Mo_at.2.2.2) ⟨rfl, v_Mo_atd⟩ ⟨by decide, by decide⟩ ⟨show 35 + n ≤ 1065 by omega, show 1794 + 6 * n ≤ 10022 by omega⟩ (by decide +kernel), ?_⟩
  refine List.forall_mem_cons.mpr ⟨am_istore_ok C.1 (by decide) (by decide +kernel), ?_⟩
  refine List.forall_mem_cons.mpr ⟨am_aload_n_ok (k := 2) C.1 (by decide +kernel), ?_⟩
  refine List.forall_mem_cons.mpr ⟨am_callVc_ok (C := R_Mo) (T := F_Mo) (N := 13) (idx := 65) C.1 rfl (am_GV mL_65 v_Mo_thrown.1 v_Mo_thrown.2.1 v_Mo_thrown.2.2.1 v_Mo_thrown.2.2.2) ⟨rfl, v_Mo_thrownd⟩ ⟨by decide, by decide⟩ ⟨show 35 + n ≤ 1065 by omega, show 1794 + 6 * n ≤ 10022 by omega⟩ (by decide +kernel), ?_⟩
  refine List.forall_mem_cons.mpr ⟨am_iload_ok C.1 (by decide +kernel), ?_⟩
  refine List.forall_mem_cons.mpr ⟨am_icmp_eq_ok (off := 5) C.1 (by decide +kernel) (by decide), ?_⟩
  refine List.forall_mem_cons.mpr ⟨am_iconst_ok C.1 (by decide +kernel), ?_⟩
  refine List.forall_mem_cons.mpr ⟨am_iload_ok C.1 (by decide +kernel), ?_⟩
  refine List.forall_mem_cons.mpr ⟨am_if_ne_ok (off := 15) C.1 (by decide +kernel) (by decide), ?_⟩
  refine List.forall_mem_cons.mpr ⟨am_aload_n_ok (k := 3) C.1 (by decide +kernel), ?_⟩
  refine List.forall_mem_cons.mpr ⟨am_iconst_ok C.1 (by decide +kernel), ?_⟩
  refine List.forall_mem_cons.mpr ⟨am_lald_ok C.1 am_Y0 (by decide +kernel), ?_⟩
  refine List.forall_mem_cons.mpr ⟨am_iload_ok C.1 (by decide +kernel), ?_⟩
  refine List.forall_mem_cons.mpr ⟨am_i2l_ok C.1 (by decide +kernel), ?_⟩
  refine List.forall_mem_cons.mpr ⟨am_lcmp_eq_ok (off := 5) C.1 (by decide +kernel) (by decide +kernel) (by decide), ?_⟩
  refine List.forall_mem_cons.mpr ⟨am_iconst_ok C.1 (by decide +kernel), ?_⟩
  refine List.forall_mem_cons.mpr ⟨am_goto_ok (off := 749) C.1 (by decide +kernel) (by decide), ?_⟩
  exact fun _ h => absurd h List.not_mem_nil
abbrev ltb_4 (len : Nat) (xs : Nat → Int32) : AT := [(295, am_ald 1 1), (296, am_ald 0 1), (297, am_ild 4 2), (299, am_ic 1 1), (300, am_iadd), (301, lj_sld len xs), (302, am_callV am_Y 8 30 1), (305, am_ald 2 1), (306, am_ald 0 1), (307, am_ild 4 2), (309, am_ic 1 1), (310, am_iadd), (311, lj_sld len xs), (312, am_callV am_Y 9 112 1), (315, am_icmp 0 1041), (318, am_ic 0 1)]
set_option maxRecDepth 100000 in
set_option maxHeartbeats 4000000 in
theorem Lltb_4 {E : AE} {l : Launch} {p : Program} {e : Env} {s : State} {m : MethodId} {below : List Frame} {meth : Method} {c : Code} {n len : Nat} {xs : Nat → Int32} {Rt : AR} (C : lj_C E p s m meth c len xs) (hn : n ≤ 513) : ∀ q ∈ ltb_4 len xs, am_sd (am_g E l) (lj_J E l p e s m below meth c n) Rt q.2 q.1 := by
  refine List.forall_mem_cons.mpr ⟨am_aload_n_ok (k := 1) C.1 (by decide +kernel), ?_⟩
  refine List.forall_mem_cons.mpr ⟨am_aload_n_ok (k := 0) C.1 (by decide +kernel), ?_⟩
  refine List.forall_mem_cons.mpr ⟨am_iload_ok C.1 (by decide +kernel), ?_⟩
  refine List.forall_mem_cons.mpr ⟨am_iconst_ok C.1 (by decide +kernel), ?_⟩
  refine List.forall_mem_cons.mpr ⟨am_iadd_ok C.1 (by decide +kernel), ?_⟩
  refine List.forall_mem_cons.mpr ⟨lj_sld_ok (pc := 301) C (by decide +kernel), ?_⟩
  refine List.forall_mem_cons.mpr ⟨am_callVc_ok (C := R_De) (T := F_De) (N := 7) (idx := 68) C.1 rfl (am_GV mL_68 v_De_corner.1 v_De_corner.2.1 v_De_corner.2.2.1 v_De_corner.2.2.2) ⟨rfl, v_De_cornerd⟩ ⟨by decide, by decide⟩ ⟨show 35 + n ≤ 1065 by omega, show 1794 + 6 * n ≤ 10022 by omega⟩ (by decide +kernel), ?_⟩
  refine List.forall_mem_cons.mpr ⟨am_aload_n_ok (k := 2) C.1 (by decide +kernel), ?_⟩
  refine List.forall_mem_cons.mpr ⟨am_aload_n_ok (k := 0) C.1 (by decide +kernel), ?_⟩
  refine List.forall_mem_cons.mpr ⟨am_iload_ok C.1 (by decide +kernel), ?_⟩
  refine List.forall_mem_cons.mpr ⟨am_iconst_ok C.1 (by decide +kernel), ?_⟩
  refine List.forall_mem_cons.mpr ⟨am_iadd_ok C.1 (by decide +kernel), ?_⟩
  refine List.forall_mem_cons.mpr ⟨lj_sld_ok (pc := 311) C (by decide +kernel), ?_⟩
  refine List.forall_mem_cons.mpr ⟨am_callVc_ok (C := R_Mo) (T := F_Mo) (N := 13) (idx := 71) C.1 rfl (am_GV mL_71 v_Mo_corner.1 v_Mo_corner.2.1 v_Mo_corner.2.2.1 v_Mo_corner.2.2.2) ⟨rfl, v_Mo_cornerd⟩ ⟨by decide, by decide⟩ ⟨show 35 + n ≤ 1065 by omega, show 1794 + 6 * n ≤ 10022 by omega⟩ (by decide +kernel), ?_⟩
  refine List.forall_mem_cons.mpr ⟨am_icmp_eq_ok (off := 726) C.1 (by decide +kernel) (by decide), ?_⟩
  refine List.forall_mem_cons.mpr ⟨am_iconst_ok C.1 (by decide +kernel), ?_⟩
  exact fun _ h => absurd h List.not_mem_nil
abbrev ltb_5 (len : Nat) (xs : Nat → Int32) : AT := [(320, am_ald 1 1), (321, am_callV am_Y 8 32 0), (324, am_ald 2 1), (325, am_callV am_Y 9 113 0), (328, am_lcmp 0 1041), (332, am_ic 0 1)]
set_option maxRecDepth 100000 in
set_option maxHeartbeats 4000000 in
theorem Lltb_5 {E : AE} {l : Launch} {p : Program} {e : Env} {s : State} {m : MethodId} {below : List Frame} {meth : Method} {c : Code} {n len : Nat} {xs : Nat → Int32} {Rt : AR} (C : lj_C E p s m meth c len xs) (hn : n ≤ 513) : ∀ q ∈ ltb_5 len xs, am_sd (am_g E l) (lj_J E l p e s m below meth c n) Rt q.2 q.1 := by
  refine List.forall_mem_cons.mpr ⟨am_aload_n_ok (k := 1) C.1 (by decide +kernel), ?_⟩
  refine List.forall_mem_cons.mpr ⟨am_callVc_ok (C := R_De) (T := F_De) (N := 7) (idx := 72) C.1 rfl (am_GV mL_72 v_De_area.1 v_De_area.2.1 v_De_area.2.2.1 v_De_area.2.2.2) ⟨rfl, v_De_aread⟩ ⟨by decide, by decide⟩ ⟨show 35 + n ≤ 1065 by omega, show 1794 + 6 * n ≤ 10022 by omega⟩ (by decide +kernel), ?_⟩
  refine List.forall_mem_cons.mpr ⟨am_aload_n_ok (k := 2) C.1 (by decide +kernel), ?_⟩
  refine List.forall_mem_cons.mpr ⟨am_callVc_ok (C := R_Mo) (T := F_Mo) (N := 13) (idx := 76) C.1 rfl (am_GV mL_76 v_Mo_area.1 v_Mo_area.2.1 v_Mo_area.2.2.1 v_Mo_area.2.2.2) ⟨rfl, v_Mo_aread⟩ ⟨by decide, by decide⟩ ⟨show 35 + n ≤ 1065 by omega, show 1794 + 6 * n ≤ 10022 by omega⟩ (by decide +kernel), ?_⟩
  refine List.forall_mem_cons.mpr ⟨am_lcmp_eq_ok (off := 712) C.1 (by decide +kernel) (by decide +kernel) (by decide), ?_⟩
  refine List.forall_mem_cons.mpr ⟨am_iconst_ok C.1 (by decide +kernel), ?_⟩
  exact fun _ h => absurd h List.not_mem_nil
abbrev ltb_6 (len : Nat) (xs : Nat → Int32) : AT := [(334, am_ald 1 1), (335, am_ald 0 1), (336, am_ild 4 2), (338, am_ic 1 1), (339, am_iadd), (340, lj_sld len xs), (341, am_callV am_Y 8 33 1), (344, am_ald 2 1), (345, am_ald 0 1), (346, am_ild 4 2), (348, am_ic 1 1), (349, am_iadd), (350, lj_sld len xs), (351, am_callV am_Y 9 114 1), (354, am_icmp 0 1041), (357, am_ic 0 1)]
set_option maxRecDepth 100000 in
set_option maxHeartbeats 4000000 in
theorem Lltb_6 {E : AE} {l : Launch} {p : Program} {e : Env} {s : State} {m : MethodId} {below : List Frame} {meth : Method} {c : Code} {n len : Nat} {xs : Nat → Int32} {Rt : AR} (C : lj_C E p s m meth c len xs) (hn : n ≤ 513) : ∀ q ∈ ltb_6 len xs, am_sd (am_g E l) (lj_J E l p e s m below meth c n) Rt q.2 q.1 := by
  refine List.forall_mem_cons.mpr ⟨am_aload_n_ok (k := 1) C.1 (by decide +kernel), ?_⟩
  refine List.forall_mem_cons.mpr ⟨am_aload_n_ok (k := 0) C.1 (by decide +kernel), ?_⟩
  refine List.forall_mem_cons.mpr ⟨am_iload_ok C.1 (by decide +kernel), ?_⟩
  refine List.forall_mem_cons.mpr ⟨am_iconst_ok C.1 (by decide +kernel), ?_⟩
  refine List.forall_mem_cons.mpr ⟨am_iadd_ok C.1 (by decide +kernel), ?_⟩
  refine List.forall_mem_cons.mpr ⟨lj_sld_ok (pc := 340) C (by decide +kernel), ?_⟩
  refine List.forall_mem_cons.mpr ⟨am_callVc_ok (C := R_De) (T := F_De) (N := 7) (idx := 77) C.1 rfl (am_GV mL_77 v_De_layer.1 v_De_layer.2.1 v_De_layer.2.2.1 v_De_layer.2.2.2) ⟨rfl, v_De_layerd⟩ ⟨by decide, by decide⟩ ⟨show 35 + n ≤ 1065 by omega, show 1794 + 6 * n ≤ 10022 by omega⟩ (by decide +kernel), ?_⟩
  refine List.forall_mem_cons.mpr ⟨am_aload_n_ok (k := 2) C.1 (by decide +kernel), ?_⟩
  refine List.forall_mem_cons.mpr ⟨am_aload_n_ok (k := 0) C.1 (by decide +kernel), ?_⟩
  refine List.forall_mem_cons.mpr ⟨am_iload_ok C.1 (by decide +kernel), ?_⟩
  refine List.forall_mem_cons.mpr ⟨am_iconst_ok C.1 (by decide +kernel), ?_⟩
  refine List.forall_mem_cons.mpr ⟨am_iadd_ok C.1 (by decide +kernel), ?_⟩
  refine List.forall_mem_cons.mpr ⟨lj_sld_ok (pc := 350) C (by decide +kernel), ?_⟩
  refine List.forall_mem_cons.mpr ⟨am_callVc_ok (C := R_Mo) (T := F_Mo) (N := 13) (idx := 80) C.1 rfl (am_GV mL_80 v_Mo_layer.1 v_Mo_layer.2.1 v_Mo_layer.2.2.1 v_Mo_layer.2.2.2) ⟨rfl, v_Mo_layerd⟩ ⟨by decide, by decide⟩ ⟨show 35 + n ≤ 1065 by omega, show 1794 + 6 * n ≤ 10022 by omega⟩ (by decide +kernel), ?_⟩
  refine List.forall_mem_cons.mpr ⟨am_icmp_eq_ok (off := 687) C.1 (by decide +kernel) (by decide), ?_⟩
  refine List.forall_mem_cons.mpr ⟨am_iconst_ok C.1 (by decide +kernel), ?_⟩
  exact fun _ h => absurd h List.not_mem_nil
abbrev ltb_7 (len : Nat) (xs : Nat → Int32) : AT := [(359, am_ald 1 1), (360, am_ald 0 1), (361, am_ild 4 2), (363, am_ic 1 1), (364, am_iadd), (365, lj_sld len xs), (366, am_callV am_Y 8 34 1), (369, am_ald 2 1), (370, am_ald 0 1), (371, am_ild 4 2), (373, am_ic 1 1), (374, am_iadd), (375, lj_sld len xs), (376, am_callV am_Y 9 115 1), (379, am_icmp 0 1041), (382, am_ic 0 1)]
set_option maxRecDepth 100000 in
set_option maxHeartbeats 4000000 in
theorem Lltb_7 {E : AE} {l : Launch} {p : Program} {e : Env} {s : State} {m : MethodId} {below : List Frame} {meth : Method} {c : Code} {n len : Nat} {xs : Nat → Int32} {Rt : AR} (C : lj_C E p s m meth c len xs) (hn : n ≤ 513) : ∀ q ∈ ltb_7 len xs, am_sd (am_g E l) (lj_J E l p e s m below meth c n) Rt q.2 q.1 := by
  refine List.forall_mem_cons.mpr ⟨am_aload_n_ok (k := 1) C.1 (by decide +kernel), ?_⟩
  refine List.forall_mem_cons.mpr ⟨am_aload_n_ok (k := 0) C.1 (by decide +kernel), ?_⟩
  refine List.forall_mem_cons.mpr ⟨am_iload_ok C.1 (by decide +kernel), ?_⟩
  refine List.forall_mem_cons.mpr ⟨am_iconst_ok C.1 (by decide +kernel), ?_⟩
  refine List.forall_mem_cons.mpr ⟨am_iadd_ok C.1 (by decide +kernel), ?_⟩
  refine List.forall_mem_cons.mpr ⟨lj_sld_ok (pc := 365) C (by decide +kernel), ?_⟩
  refine List.forall_mem_cons.mpr ⟨am_callVc_ok (C := R_De) (T := F_De) (N := 7) (idx := 81) C.1 rfl (am_GV mL_81 v_De_pair.1 v_De_pair.2.1 v_De_pair.2.2.1 v_De_pair.2.2.2) ⟨rfl, v_De_paird⟩ ⟨by decide, by decide⟩ ⟨show 35 + n ≤ 1065 by omega, show 1794 + 6 * n ≤ 10022 by omega⟩ (by decide +kernel), ?_⟩
  refine List.forall_mem_cons.mpr ⟨am_aload_n_ok (k := 2) C.1 (by decide +kernel), ?_⟩
  refine List.forall_mem_cons.mpr ⟨am_aload_n_ok (k := 0) C.1 (by decide +kernel), ?_⟩
  refine List.forall_mem_cons.mpr ⟨am_iload_ok C.1 (by decide +kernel), ?_⟩
  refine List.forall_mem_cons.mpr ⟨am_iconst_ok C.1 (by decide +kernel), ?_⟩
  refine List.forall_mem_cons.mpr ⟨am_iadd_ok C.1 (by decide +kernel), ?_⟩
  refine List.forall_mem_cons.mpr ⟨lj_sld_ok (pc := 375) C (by decide +kernel), ?_⟩
  refine List.forall_mem_cons.mpr ⟨am_callVc_ok (C := R_Mo) (T := F_Mo) (N := 13) (idx := 84) C.1 rfl (am_GV mL_84 v_Mo_pair.1 v_Mo_pair.2.1 v_Mo_pair.2.2.1 v_Mo_pair.2.2.2) ⟨rfl, v_Mo_paird⟩ ⟨by decide, by decide⟩ ⟨show 35 + n ≤ 1065 by omega, show 1794 + 6 * n ≤ 10022 by omega⟩ (by decide +kernel), ?_⟩
  refine List.forall_mem_cons.mpr ⟨am_icmp_eq_ok (off := 662) C.1 (by decide +kernel) (by decide), ?_⟩
  refine List.forall_mem_cons.mpr ⟨am_iconst_ok C.1 (by decide +kernel), ?_⟩
  exact fun _ h => absurd h List.not_mem_nil
abbrev ltb_8 (len : Nat) (xs : Nat → Int32) : AT := [(384, am_ald 1 1), (385, am_ald 0 1), (386, am_ild 4 2), (388, am_ic 1 1), (389, am_iadd), (390, lj_sld len xs), (391, am_ald 0 1), (392, am_ild 4 2), (394, am_ic 2 1), (395, am_iadd), (396, lj_sld len xs), (397, am_ald 3 1), (401, am_ist 5 2), (403, am_ald 2 1), (404, am_ald 0 1), (405, am_ild 4 2), (407, am_ic 1 1), (408, am_iadd), (409, lj_sld len xs), (410, am_ald 0 1), (411, am_ild 4 2), (413, am_ic 2 1), (414, am_iadd), (415, lj_sld len xs), (416, am_callV am_Y 9 116 2), (419, am_lst 6 2), (421, am_ald 2 1), (422, am_callV am_Y 9 91 0), (425, am_ild 5 2), (427, am_icmp 0 432), (430, am_ic 0 1), (432, am_ild 5 2), (434, am_if 1 448), (437, am_ald 3 1), (438, am_ic 0 1), (439, am_lald am_Y), (440, am_lld 6 2), (442, am_lcmp 0 448), (446, am_ic 0 1), (448, am_goto 1041)]
set_option maxRecDepth 100000 in
set_option maxHeartbeats 4000000 in
theorem Lltb_8 {E : AE} {l : Launch} {p : Program} {e : Env} {s : State} {m : MethodId} {below : List Frame} {meth : Method} {c : Code} {n len : Nat} {xs : Nat → Int32} {Rt : AR} (C : lj_C E p s m meth c len xs) (hn : n ≤ 513) : ∀ q ∈ ltb_8 len xs, am_sd (am_g E l) (lj_J E l p e s m below meth c n) Rt q.2 q.1 := by
  refine List.forall_mem_cons.mpr ⟨am_aload_n_ok (k := 1) C.1 (by decide +kernel), ?_⟩
  refine List.forall_mem_cons.mpr ⟨am_aload_n_ok (k := 0) C.1 (by decide +kernel), ?_⟩
  refine List.forall_mem_cons.mpr ⟨am_iload_ok C.1 (by decide +kernel), ?_⟩
  refine List.forall_mem_cons.mpr ⟨am_iconst_ok C.1 (by decide +kernel), ?_⟩
  refine List.forall_mem_cons.mpr ⟨am_iadd_ok C.1 (by decide +kernel), ?_⟩
  refine List.forall_mem_cons.mpr ⟨lj_sld_ok (pc := 390) C (by decide +kernel), ?_⟩
  refine List.forall_mem_cons.mpr ⟨am_aload_n_ok (k := 0) C.1 (by decide +kernel), ?_⟩
  refine List.forall_mem_cons.mpr ⟨am_iload_ok C.1 (by decide +kernel), ?_⟩
  refine List.forall_mem_cons.mpr ⟨am_iconst_ok C.1 (by decide +kernel), ?_⟩
  refine List.forall_mem_cons.mpr ⟨am_iadd_ok C.1 (by decide +kernel), ?_⟩
  refine List.forall_mem_cons.mpr ⟨lj_sld_ok (pc := 396) C (by decide +kernel), ?_⟩
  refine List.forall_mem_cons.mpr ⟨am_aload_n_ok (k := 3) C.1 (by decide +kernel), ?_⟩
  refine List.forall_mem_cons.mpr ⟨am_istore_ok C.1 (by decide) (by decide +kernel), ?_⟩
  refine List.forall_mem_cons.mpr ⟨am_aload_n_ok (k := 2) C.1 (by decide +kernel), ?_⟩
  refine List.forall_mem_cons.mpr ⟨am_aload_n_ok (k := 0) C.1 (by decide +kernel), ?_⟩
  refine List.forall_mem_cons.mpr ⟨am_iload_ok C.1 (by decide +kernel), ?_⟩
  refine List.forall_mem_cons.mpr ⟨am_iconst_ok C.1 (by decide +kernel), ?_⟩
  refine List.forall_mem_cons.mpr ⟨am_iadd_ok C.1 (by decide +kernel), ?_⟩
  refine List.forall_mem_cons.mpr ⟨lj_sld_ok (pc := 409) C (by decide +kernel), ?_⟩
  refine List.forall_mem_cons.mpr ⟨am_aload_n_ok (k := 0) C.1 (by decide +kernel), ?_⟩
  refine List.forall_mem_cons.mpr ⟨am_iload_ok C.1 (by decide +kernel), ?_⟩
  refine List.forall_mem_cons.mpr ⟨am_iconst_ok C.1 (by decide +kernel), ?_⟩
  refine List.forall_mem_cons.mpr ⟨am_iadd_ok C.1 (by decide +kernel), ?_⟩
  refine List.forall_mem_cons.mpr ⟨lj_sld_ok (pc := 415) C (by decide +kernel), ?_⟩
  refine List.forall_mem_cons.mpr ⟨am_callVc_ok (C := R_Mo) (T := F_Mo) (N := 13) (idx := 87) C.1 rfl (am_GV mL_87 v_Mo_distance.1 v_Mo_distance.2.1 v_Mo_distance.2.2.1 v_Mo_distance.2.2.2) ⟨rfl, v_Mo_distanced⟩ ⟨by decide, by decide⟩ ⟨show 35 + n ≤ 1065 by omega, show 1794 + 6 * n ≤ 10022 by omega⟩ (by decide +kernel), ?_⟩
  refine List.forall_mem_cons.mpr ⟨am_lstore_ok C.1 (by decide) (by decide +kernel), ?_⟩
  refine List.forall_mem_cons.mpr ⟨am_aload_n_ok (k := 2) C.1 (by decide +kernel), ?_⟩
  refine List.forall_mem_cons.mpr ⟨am_callVc_ok (C := R_Mo) (T := F_Mo) (N := 13) (idx := 65) C.1 rfl (am_GV mL_65 v_Mo_thrown.1 v_Mo_thrown.2.1 v_Mo_thrown.2.2.1 v_Mo_thrown.2.2.2) ⟨rfl, v_Mo_thrownd⟩ ⟨by decide, by decide⟩ ⟨show 35 + n ≤ 1065 by omega, show 1794 + 6 * n ≤ 10022 by omega⟩ (by decide +kernel), ?_⟩
  refine List.forall_mem_cons.mpr ⟨am_iload_ok C.1 (by decide +kernel), ?_⟩
  refine List.forall_mem_cons.mpr ⟨am_icmp_eq_ok (off := 5) C.1 (by decide +kernel) (by decide), ?_⟩
  refine List.forall_mem_cons.mpr ⟨am_iconst_ok C.1 (by decide +kernel), ?_⟩
  refine List.forall_mem_cons.mpr ⟨am_iload_ok C.1 (by decide +kernel), ?_⟩
  refine List.forall_mem_cons.mpr ⟨am_if_ne_ok (off := 14) C.1 (by decide +kernel) (by decide), ?_⟩
  refine List.forall_mem_cons.mpr ⟨am_aload_n_ok (k := 3) C.1 (by decide +kernel), ?_⟩
  refine List.forall_mem_cons.mpr ⟨am_iconst_ok C.1 (by decide +kernel), ?_⟩
  refine List.forall_mem_cons.mpr ⟨am_lald_ok C.1 am_Y0 (by decide +kernel), ?_⟩
  refine List.forall_mem_cons.mpr ⟨am_lload_ok C.1 (by decide +kernel), ?_⟩
  refine List.forall_mem_cons.mpr ⟨am_lcmp_eq_ok (off := 5) C.1 (by decide +kernel) (by decide +kernel) (by decide), ?_⟩
  refine List.forall_mem_cons.mpr ⟨am_iconst_ok C.1 (by decide +kernel), ?_⟩
  refine List.forall_mem_cons.mpr ⟨am_goto_ok (off := 593) C.1 (by decide +kernel) (by decide), ?_⟩
  exact fun _ h => absurd h List.not_mem_nil
abbrev ltb_9 (len : Nat) (xs : Nat → Int32) : AT := [(451, am_ald 1 1), (452, am_ald 0 1), (453, am_ild 4 2), (455, am_ic 1 1), (456, am_iadd), (457, lj_sld len xs), (458, am_callV am_Y 8 45 1), (461, am_ald 2 1), (462, am_ald 0 1), (463, am_ild 4 2), (465, am_ic 1 1), (466, am_iadd), (467, lj_sld len xs), (468, am_callV am_Y 9 123 1), (471, am_icmp 0 1041), (474, am_ic 0 1)]
set_option maxRecDepth 100000 in
set_option maxHeartbeats 4000000 in
theorem Lltb_9 {E : AE} {l : Launch} {p : Program} {e : Env} {s : State} {m : MethodId} {below : List Frame} {meth : Method} {c : Code} {n len : Nat} {xs : Nat → Int32} {Rt : AR} (C : lj_C E p s m meth c len xs) (hn : n ≤ 513) : ∀ q ∈ ltb_9 len xs, am_sd (am_g E l) (lj_J E l p e s m below meth c n) Rt q.2 q.1 := by
  refine List.forall_mem_cons.mpr ⟨am_aload_n_ok (k := 1) C.1 (by decide +kernel), ?_⟩
  refine List.forall_mem_cons.mpr ⟨am_aload_n_ok (k := 0) C.1 (by decide +kernel), ?_⟩
  refine List.forall_mem_cons.mpr ⟨am_iload_ok C.1 (by decide +kernel), ?_⟩
  refine List.forall_mem_cons.mpr ⟨am_iconst_ok C.1 (by decide +kernel), ?_⟩
  refine List.forall_mem_cons.mpr ⟨am_iadd_ok C.1 (by decide +kernel), ?_⟩
  refine List.forall_mem_cons.mpr ⟨lj_sld_ok (pc := 457) C (by decide +kernel), ?_⟩
  refine List.forall_mem_cons.mpr ⟨am_callVc_ok (C := R_De) (T := F_De) (N := 7) (idx := 88) C.1 rfl (am_GV mL_88 v_De_best.1 v_De_best.2.1 v_De_best.2.2.1 v_De_best.2.2.2) ⟨rfl, v_De_bestd⟩ ⟨by decide, by decide⟩ ⟨show 35 + n ≤ 1065 by omega, show 1794 + 6 * n ≤ 10022 by omega⟩ (by decide +kernel), ?_⟩
  refine List.forall_mem_cons.mpr ⟨am_aload_n_ok (k := 2) C.1 (by decide +kernel), ?_⟩
  refine List.forall_mem_cons.mpr ⟨am_aload_n_ok (k := 0) C.1 (by decide +kernel), ?_⟩
  refine List.forall_mem_cons.mpr ⟨am_iload_ok C.1 (by decide +kernel), ?_⟩
  refine List.forall_mem_cons.mpr ⟨am_iconst_ok C.1 (by decide +kernel), ?_⟩
  refine List.forall_mem_cons.mpr ⟨am_iadd_ok C.1 (by decide +kernel), ?_⟩
  refine List.forall_mem_cons.mpr ⟨lj_sld_ok (pc := 467) C (by decide +kernel), ?_⟩
  refine List.forall_mem_cons.mpr ⟨am_callVc_ok (C := R_Mo) (T := F_Mo) (N := 13) (idx := 91) C.1 rfl (am_GV mL_91 v_Mo_best.1 v_Mo_best.2.1 v_Mo_best.2.2.1 v_Mo_best.2.2.2) ⟨rfl, v_Mo_bestd⟩ ⟨by decide, by decide⟩ ⟨show 35 + n ≤ 1065 by omega, show 1794 + 6 * n ≤ 10022 by omega⟩ (by decide +kernel), ?_⟩
  refine List.forall_mem_cons.mpr ⟨am_icmp_eq_ok (off := 570) C.1 (by decide +kernel) (by decide), ?_⟩
  refine List.forall_mem_cons.mpr ⟨am_iconst_ok C.1 (by decide +kernel), ?_⟩
  exact fun _ h => absurd h List.not_mem_nil
abbrev ltb_10 (len : Nat) (xs : Nat → Int32) : AT := [(476, am_ald 1 1), (477, am_ald 0 1), (478, am_ild 4 2), (480, am_ic 1 1), (481, am_iadd), (482, lj_sld len xs), (483, am_ald 0 1), (484, am_ild 4 2), (486, am_ic 2 1), (487, am_iadd), (488, lj_sld len xs), (489, am_ald 3 1), (493, am_ist 5 2), (495, am_ald 2 1), (496, am_ald 0 1), (497, am_ild 4 2), (499, am_ic 1 1), (500, am_iadd), (501, lj_sld len xs), (502, am_ald 0 1), (503, am_ild 4 2), (505, am_ic 2 1), (506, am_iadd), (507, lj_sld len xs), (508, am_callV am_Y 9 124 2), (511, am_lst 6 2), (513, am_ald 2 1), (514, am_callV am_Y 9 91 0), (517, am_ild 5 2), (519, am_icmp 0 524), (522, am_ic 0 1), (524, am_ild 5 2), (526, am_if 1 540), (529, am_ald 3 1), (530, am_ic 0 1), (531, am_lald am_Y), (532, am_lld 6 2), (534, am_lcmp 0 540), (538, am_ic 0 1), (540, am_goto 1041)]
set_option maxRecDepth 100000 in
set_option maxHeartbeats 4000000 in
theorem Lltb_10 {E : AE} {l : Launch} {p : Program} {e : Env} {s : State} {m : MethodId} {below : List Frame} {meth : Method} {c : Code} {n len : Nat} {xs : Nat → Int32} {Rt : AR} (C : lj_C E p s m meth c len xs) (hn : n ≤ 513) : ∀ q ∈ ltb_10 len xs, am_sd (am_g E l) (lj_J E l p e s m below meth c n) Rt q.2 q.1 := by
  refine List.forall_mem_cons.mpr ⟨am_aload_n_ok (k := 1) C.1 (by decide +kernel), ?_⟩
  refine List.forall_mem_cons.mpr ⟨am_aload_n_ok (k := 0) C.1 (by decide +kernel), ?_⟩
  refine List.forall_mem_cons.mpr ⟨am_iload_ok C.1 (by decide +kernel), ?_⟩
  refine List.forall_mem_cons.mpr ⟨am_iconst_ok C.1 (by decide +kernel), ?_⟩
  refine List.forall_mem_cons.mpr ⟨am_iadd_ok C.1 (by decide +kernel), ?_⟩
  refine List.forall_mem_cons.mpr ⟨lj_sld_ok (pc := 482) C (by decide +kernel), ?_⟩
  refine List.forall_mem_cons.mpr ⟨am_aload_n_ok (k := 0) C.1 (by decide +kernel), ?_⟩
  refine List.forall_mem_cons.mpr ⟨am_iload_ok C.1 (by decide +kernel), ?_⟩
  refine List.forall_mem_cons.mpr ⟨am_iconst_ok C.1 (by decide +kernel), ?_⟩
  refine List.forall_mem_cons.mpr ⟨am_iadd_ok C.1 (by decide +kernel), ?_⟩
  refine List.forall_mem_cons.mpr ⟨lj_sld_ok (pc := 488) C (by decide +kernel), ?_⟩
  refine List.forall_mem_cons.mpr ⟨am_aload_n_ok (k := 3) C.1 (by decide +kernel), ?_⟩
  refine List.forall_mem_cons.mpr ⟨am_istore_ok C.1 (by decide) (by decide +kernel), ?_⟩
  refine List.forall_mem_cons.mpr ⟨am_aload_n_ok (k := 2) C.1 (by decide +kernel), ?_⟩
  refine List.forall_mem_cons.mpr ⟨am_aload_n_ok (k := 0) C.1 (by decide +kernel), ?_⟩
  refine List.forall_mem_cons.mpr ⟨am_iload_ok C.1 (by decide +kernel), ?_⟩
  refine List.forall_mem_cons.mpr ⟨am_iconst_ok C.1 (by decide +kernel), ?_⟩
  refine List.forall_mem_cons.mpr ⟨am_iadd_ok C.1 (by decide +kernel), ?_⟩
  refine List.forall_mem_cons.mpr ⟨lj_sld_ok (pc := 501) C (by decide +kernel), ?_⟩
  refine List.forall_mem_cons.mpr ⟨am_aload_n_ok (k := 0) C.1 (by decide +kernel), ?_⟩
  refine List.forall_mem_cons.mpr ⟨am_iload_ok C.1 (by decide +kernel), ?_⟩
  refine List.forall_mem_cons.mpr ⟨am_iconst_ok C.1 (by decide +kernel), ?_⟩
  refine List.forall_mem_cons.mpr ⟨am_iadd_ok C.1 (by decide +kernel), ?_⟩
  refine List.forall_mem_cons.mpr ⟨lj_sld_ok (pc := 507) C (by decide +kernel), ?_⟩
  refine List.forall_mem_cons.mpr ⟨am_callVc_ok (C := R_Mo) (T := F_Mo) (N := 13) (idx := 94) C.1 rfl (am_GV mL_94 v_Mo_side.1 v_Mo_side.2.1 v_Mo_side.2.2.1 v_Mo_side.2.2.2) ⟨rfl, v_Mo_sided⟩ ⟨by decide, by decide⟩ ⟨show 35 + n ≤ 1065 by omega, show 1794 + 6 * n ≤ 10022 by omega⟩ (by decide +kernel), ?_⟩
  refine List.forall_mem_cons.mpr ⟨am_lstore_ok C.1 (by decide) (by decide +kernel), ?_⟩
  refine List.forall_mem_cons.mpr ⟨am_aload_n_ok (k := 2) C.1 (by decide +kernel), ?_⟩
  refine List.forall_mem_cons.mpr ⟨am_callVc_ok (C := R_Mo) (T := F_Mo) (N := 13) (idx := 65) C.1 rfl (am_GV mL_65 v_Mo_thrown.1 v_Mo_thrown.2.1 v_Mo_thrown.2.2.1 v_Mo_thrown.2.2.2) ⟨rfl, v_Mo_thrownd⟩ ⟨by decide, by decide⟩ ⟨show 35 + n ≤ 1065 by omega, show 1794 + 6 * n ≤ 10022 by omega⟩ (by decide +kernel), ?_⟩
  refine List.forall_mem_cons.mpr ⟨am_iload_ok C.1 (by decide +kernel), ?_⟩
  refine List.forall_mem_cons.mpr ⟨am_icmp_eq_ok (off := 5) C.1 (by decide +kernel) (by decide), ?_⟩
  refine List.forall_mem_cons.mpr ⟨am_iconst_ok C.1 (by decide +kernel), ?_⟩
  refine List.forall_mem_cons.mpr ⟨am_iload_ok C.1 (by decide +kernel), ?_⟩
  refine List.forall_mem_cons.mpr ⟨am_if_ne_ok (off := 14) C.1 (by decide +kernel) (by decide), ?_⟩
  refine List.forall_mem_cons.mpr ⟨am_aload_n_ok (k := 3) C.1 (by decide +kernel), ?_⟩
  refine List.forall_mem_cons.mpr ⟨am_iconst_ok C.1 (by decide +kernel), ?_⟩
  refine List.forall_mem_cons.mpr ⟨am_lald_ok C.1 am_Y0 (by decide +kernel), ?_⟩
  refine List.forall_mem_cons.mpr ⟨am_lload_ok C.1 (by decide +kernel), ?_⟩
  refine List.forall_mem_cons.mpr ⟨am_lcmp_eq_ok (off := 5) C.1 (by decide +kernel) (by decide +kernel) (by decide), ?_⟩
  refine List.forall_mem_cons.mpr ⟨am_iconst_ok C.1 (by decide +kernel), ?_⟩
  refine List.forall_mem_cons.mpr ⟨am_goto_ok (off := 501) C.1 (by decide +kernel) (by decide), ?_⟩
  exact fun _ h => absurd h List.not_mem_nil
abbrev ltb_11 (len : Nat) (xs : Nat → Int32) : AT := [(543, am_ald 1 1), (544, am_ald 0 1), (545, am_ild 4 2), (547, am_ic 1 1), (548, am_iadd), (549, lj_sld len xs), (550, am_ald 0 1), (551, am_ild 4 2), (553, am_ic 2 1), (554, am_iadd), (555, lj_sld len xs), (556, am_ald 3 1), (560, am_ist 5 2), (562, am_ald 2 1), (563, am_ald 0 1), (564, am_ild 4 2), (566, am_ic 1 1), (567, am_iadd), (568, lj_sld len xs), (569, am_ald 0 1), (570, am_ild 4 2), (572, am_ic 2 1), (573, am_iadd), (574, lj_sld len xs), (575, am_callV am_Y 9 125 2), (578, am_ist 6 2), (580, am_ald 2 1), (581, am_callV am_Y 9 91 0), (584, am_ild 5 2), (586, am_icmp 0 591), (589, am_ic 0 1), (591, am_ild 5 2), (593, am_if 1 608), (596, am_ald 3 1), (597, am_ic 0 1), (598, am_lald am_Y), (599, am_ild 6 2), (601, am_i2l), (602, am_lcmp 0 608), (606, am_ic 0 1), (608, am_goto 1041)]
set_option maxRecDepth 100000 in
set_option maxHeartbeats 4000000 in
theorem Lltb_11 {E : AE} {l : Launch} {p : Program} {e : Env} {s : State} {m : MethodId} {below : List Frame} {meth : Method} {c : Code} {n len : Nat} {xs : Nat → Int32} {Rt : AR} (C : lj_C E p s m meth c len xs) (hn : n ≤ 513) : ∀ q ∈ ltb_11 len xs, am_sd (am_g E l) (lj_J E l p e s m below meth c n) Rt q.2 q.1 := by
  refine List.forall_mem_cons.mpr ⟨am_aload_n_ok (k := 1) C.1 (by decide +kernel), ?_⟩
  refine List.forall_mem_cons.mpr ⟨am_aload_n_ok (k := 0) C.1 (by decide +kernel), ?_⟩
  refine List.forall_mem_cons.mpr ⟨am_iload_ok C.1 (by decide +kernel), ?_⟩
  refine List.forall_mem_cons.mpr ⟨am_iconst_ok C.1 (by decide +kernel), ?_⟩
  refine List.forall_mem_cons.mpr ⟨am_iadd_ok C.1 (by decide +kernel), ?_⟩
  refine List.forall_mem_cons.mpr ⟨lj_sld_ok (pc := 549) C (by decide +kernel), ?_⟩
  refine List.forall_mem_cons.mpr ⟨am_aload_n_ok (k := 0) C.1 (by decide +kernel), ?_⟩
  refine List.forall_mem_cons.mpr ⟨am_iload_ok C.1 (by decide +kernel), ?_⟩
  refine List.forall_mem_cons.mpr ⟨am_iconst_ok C.1 (by decide +kernel), ?_⟩
  refine List.forall_mem_cons.mpr ⟨am_iadd_ok C.1 (by decide +kernel), ?_⟩
  refine List.forall_mem_cons.mpr ⟨lj_sld_ok (pc := 555) C (by decide +kernel), ?_⟩
  refine List.forall_mem_cons.mpr ⟨am_aload_n_ok (k := 3) C.1 (by decide +kernel), ?_⟩
  refine List.forall_mem_cons.mpr ⟨am_istore_ok C.1 (by decide) (by decide +kernel), ?_⟩
  refine List.forall_mem_cons.mpr ⟨am_aload_n_ok (k := 2) C.1 (by decide +kernel), ?_⟩
  refine List.forall_mem_cons.mpr ⟨am_aload_n_ok (k := 0) C.1 (by decide +kernel), ?_⟩
  refine List.forall_mem_cons.mpr ⟨am_iload_ok C.1 (by decide +kernel), ?_⟩
  refine List.forall_mem_cons.mpr ⟨am_iconst_ok C.1 (by decide +kernel), ?_⟩
  refine List.forall_mem_cons.mpr ⟨am_iadd_ok C.1 (by decide +kernel), ?_⟩
  refine List.forall_mem_cons.mpr ⟨lj_sld_ok (pc := 568) C (by decide +kernel), ?_⟩
  refine List.forall_mem_cons.mpr ⟨am_aload_n_ok (k := 0) C.1 (by decide +kernel), ?_⟩
  refine List.forall_mem_cons.mpr ⟨am_iload_ok C.1 (by decide +kernel), ?_⟩
  refine List.forall_mem_cons.mpr ⟨am_iconst_ok C.1 (by decide +kernel), ?_⟩
  refine List.forall_mem_cons.mpr ⟨am_iadd_ok C.1 (by decide +kernel), ?_⟩
  refine List.forall_mem_cons.mpr ⟨lj_sld_ok (pc := 574) C (by decide +kernel), ?_⟩
  refine List.forall_mem_cons.mpr ⟨am_callVc_ok (C := R_Mo) (T := F_Mo) (N := 13) (idx := 97) C.1 rfl (am_GV mL_97 v_Mo_where.1 v_Mo_where.2.1 v_Mo_where.2.2.1 v_Mo_where.2.2.2) ⟨rfl, v_Mo_whered⟩ ⟨by decide, by decide⟩ ⟨show 35 + n ≤ 1065 by omega, show 1794 + 6 * n ≤ 10022 by omega⟩ (by decide +kernel), ?_⟩
  refine List.forall_mem_cons.mpr ⟨am_istore_ok C.1 (by decide) (by decide +kernel), ?_⟩
  refine List.forall_mem_cons.mpr ⟨am_aload_n_ok (k := 2) C.1 (by decide +kernel), ?_⟩
  refine List.forall_mem_cons.mpr ⟨am_callVc_ok (C := R_Mo) (T := F_Mo) (N := 13) (idx := 65) C.1 rfl (am_GV mL_65 v_Mo_thrown.1 v_Mo_thrown.2.1 v_Mo_thrown.2.2.1 v_Mo_thrown.2.2.2) ⟨rfl, v_Mo_thrownd⟩ ⟨by decide, by decide⟩ ⟨show 35 + n ≤ 1065 by omega, show 1794 + 6 * n ≤ 10022 by omega⟩ (by decide +kernel), ?_⟩
  refine List.forall_mem_cons.mpr ⟨am_iload_ok C.1 (by decide +kernel), ?_⟩
  refine List.forall_mem_cons.mpr ⟨am_icmp_eq_ok (off := 5) C.1 (by decide +kernel) (by decide), ?_⟩
  refine List.forall_mem_cons.mpr ⟨am_iconst_ok C.1 (by decide +kernel), ?_⟩
  refine List.forall_mem_cons.mpr ⟨am_iload_ok C.1 (by decide +kernel), ?_⟩
  refine List.forall_mem_cons.mpr ⟨am_if_ne_ok (off := 15) C.1 (by decide +kernel) (by decide), ?_⟩
  refine List.forall_mem_cons.mpr ⟨am_aload_n_ok (k := 3) C.1 (by decide +kernel), ?_⟩
  refine List.forall_mem_cons.mpr ⟨am_iconst_ok C.1 (by decide +kernel), ?_⟩
  refine List.forall_mem_cons.mpr ⟨am_lald_ok C.1 am_Y0 (by decide +kernel), ?_⟩
  refine List.forall_mem_cons.mpr ⟨am_iload_ok C.1 (by decide +kernel), ?_⟩
  refine List.forall_mem_cons.mpr ⟨am_i2l_ok C.1 (by decide +kernel), ?_⟩
  refine List.forall_mem_cons.mpr ⟨am_lcmp_eq_ok (off := 5) C.1 (by decide +kernel) (by decide +kernel) (by decide), ?_⟩
  refine List.forall_mem_cons.mpr ⟨am_iconst_ok C.1 (by decide +kernel), ?_⟩
  refine List.forall_mem_cons.mpr ⟨am_goto_ok (off := 433) C.1 (by decide +kernel) (by decide), ?_⟩
  exact fun _ h => absurd h List.not_mem_nil
abbrev ltb_12 (len : Nat) (xs : Nat → Int32) : AT := [(611, am_ald 1 1), (612, am_ald 0 1), (613, am_ild 4 2), (615, am_ic 1 1), (616, am_iadd), (617, lj_sld len xs), (618, am_ald 0 1), (619, am_ild 4 2), (621, am_ic 2 1), (622, am_iadd), (623, lj_sld len xs), (624, am_ald 3 1), (628, am_ist 5 2), (630, am_ald 2 1), (631, am_ald 0 1), (632, am_ild 4 2), (634, am_ic 1 1), (635, am_iadd), (636, lj_sld len xs), (637, am_ald 0 1), (638, am_ild 4 2), (640, am_ic 2 1), (641, am_iadd), (642, lj_sld len xs), (643, am_callV am_Y 9 126 2), (646, am_ist 6 2), (648, am_ald 2 1), (649, am_callV am_Y 9 91 0), (652, am_ild 5 2), (654, am_icmp 0 659), (657, am_ic 0 1), (659, am_ild 5 2), (661, am_if 1 676), (664, am_ald 3 1), (665, am_ic 0 1), (666, am_lald am_Y), (667, am_ild 6 2), (669, am_i2l), (670, am_lcmp 0 676), (674, am_ic 0 1), (676, am_goto 1041)]
set_option maxRecDepth 100000 in
set_option maxHeartbeats 4000000 in
theorem Lltb_12 {E : AE} {l : Launch} {p : Program} {e : Env} {s : State} {m : MethodId} {below : List Frame} {meth : Method} {c : Code} {n len : Nat} {xs : Nat → Int32} {Rt : AR} (C : lj_C E p s m meth c len xs) (hn : n ≤ 513) : ∀ q ∈ ltb_12 len xs, am_sd (am_g E l) (lj_J E l p e s m below meth c n) Rt q.2 q.1 := by
  refine List.forall_mem_cons.mpr ⟨am_aload_n_ok (k := 1) C.1 (by decide +kernel), ?_⟩
  refine List.forall_mem_cons.mpr ⟨am_aload_n_ok (k := 0) C.1 (by decide +kernel), ?_⟩
  refine List.forall_mem_cons.mpr ⟨am_iload_ok C.1 (by decide +kernel), ?_⟩
  refine List.forall_mem_cons.mpr ⟨am_iconst_ok C.1 (by decide +kernel), ?_⟩
  refine List.forall_mem_cons.mpr ⟨am_iadd_ok C.1 (by decide +kernel), ?_⟩
  refine List.forall_mem_cons.mpr ⟨lj_sld_ok (pc := 617) C (by decide +kernel), ?_⟩
  refine List.forall_mem_cons.mpr ⟨am_aload_n_ok (k := 0) C.1 (by decide +kernel), ?_⟩
  refine List.forall_mem_cons.mpr ⟨am_iload_ok C.1 (by decide +kernel), ?_⟩
  refine List.forall_mem_cons.mpr ⟨am_iconst_ok C.1 (by decide +kernel), ?_⟩
  refine List.forall_mem_cons.mpr ⟨am_iadd_ok C.1 (by decide +kernel), ?_⟩
  refine List.forall_mem_cons.mpr ⟨lj_sld_ok (pc := 623) C (by decide +kernel), ?_⟩
  refine List.forall_mem_cons.mpr ⟨am_aload_n_ok (k := 3) C.1 (by decide +kernel), ?_⟩
  refine List.forall_mem_cons.mpr ⟨am_istore_ok C.1 (by decide) (by decide +kernel), ?_⟩
  refine List.forall_mem_cons.mpr ⟨am_aload_n_ok (k := 2) C.1 (by decide +kernel), ?_⟩
  refine List.forall_mem_cons.mpr ⟨am_aload_n_ok (k := 0) C.1 (by decide +kernel), ?_⟩
  refine List.forall_mem_cons.mpr ⟨am_iload_ok C.1 (by decide +kernel), ?_⟩
  refine List.forall_mem_cons.mpr ⟨am_iconst_ok C.1 (by decide +kernel), ?_⟩
  refine List.forall_mem_cons.mpr ⟨am_iadd_ok C.1 (by decide +kernel), ?_⟩
  refine List.forall_mem_cons.mpr ⟨lj_sld_ok (pc := 636) C (by decide +kernel), ?_⟩
  refine List.forall_mem_cons.mpr ⟨am_aload_n_ok (k := 0) C.1 (by decide +kernel), ?_⟩
  refine List.forall_mem_cons.mpr ⟨am_iload_ok C.1 (by decide +kernel), ?_⟩
  refine List.forall_mem_cons.mpr ⟨am_iconst_ok C.1 (by decide +kernel), ?_⟩
  refine List.forall_mem_cons.mpr ⟨am_iadd_ok C.1 (by decide +kernel), ?_⟩
  refine List.forall_mem_cons.mpr ⟨lj_sld_ok (pc := 642) C (by decide +kernel), ?_⟩
  refine List.forall_mem_cons.mpr ⟨am_callVc_ok (C := R_Mo) (T := F_Mo) (N := 13) (idx := 100) C.1 rfl (am_GV mL_100 v_Mo_nearest.1 v_Mo_nearest.2.1 v_Mo_nearest.2.2.1 v_Mo_nearest.2.2.2) ⟨rfl, v_Mo_nearestd⟩ ⟨by decide, by decide⟩ ⟨show 35 + n ≤ 1065 by omega, show 1794 + 6 * n ≤ 10022 by omega⟩ (by decide +kernel), ?_⟩
  refine List.forall_mem_cons.mpr ⟨am_istore_ok C.1 (by decide) (by decide +kernel), ?_⟩
  refine List.forall_mem_cons.mpr ⟨am_aload_n_ok (k := 2) C.1 (by decide +kernel), ?_⟩
  refine List.forall_mem_cons.mpr ⟨am_callVc_ok (C := R_Mo) (T := F_Mo) (N := 13) (idx := 65) C.1 rfl (am_GV mL_65 v_Mo_thrown.1 v_Mo_thrown.2.1 v_Mo_thrown.2.2.1 v_Mo_thrown.2.2.2) ⟨rfl, v_Mo_thrownd⟩ ⟨by decide, by decide⟩ ⟨show 35 + n ≤ 1065 by omega, show 1794 + 6 * n ≤ 10022 by omega⟩ (by decide +kernel), ?_⟩
  refine List.forall_mem_cons.mpr ⟨am_iload_ok C.1 (by decide +kernel), ?_⟩
  refine List.forall_mem_cons.mpr ⟨am_icmp_eq_ok (off := 5) C.1 (by decide +kernel) (by decide), ?_⟩
  refine List.forall_mem_cons.mpr ⟨am_iconst_ok C.1 (by decide +kernel), ?_⟩
  refine List.forall_mem_cons.mpr ⟨am_iload_ok C.1 (by decide +kernel), ?_⟩
  refine List.forall_mem_cons.mpr ⟨am_if_ne_ok (off := 15) C.1 (by decide +kernel) (by decide), ?_⟩
  refine List.forall_mem_cons.mpr ⟨am_aload_n_ok (k := 3) C.1 (by decide +kernel), ?_⟩
  refine List.forall_mem_cons.mpr ⟨am_iconst_ok C.1 (by decide +kernel), ?_⟩
  refine List.forall_mem_cons.mpr ⟨am_lald_ok C.1 am_Y0 (by decide +kernel), ?_⟩
  refine List.forall_mem_cons.mpr ⟨am_iload_ok C.1 (by decide +kernel), ?_⟩
  refine List.forall_mem_cons.mpr ⟨am_i2l_ok C.1 (by decide +kernel), ?_⟩
  refine List.forall_mem_cons.mpr ⟨am_lcmp_eq_ok (off := 5) C.1 (by decide +kernel) (by decide +kernel) (by decide), ?_⟩
  refine List.forall_mem_cons.mpr ⟨am_iconst_ok C.1 (by decide +kernel), ?_⟩
  refine List.forall_mem_cons.mpr ⟨am_goto_ok (off := 365) C.1 (by decide +kernel) (by decide), ?_⟩
  exact fun _ h => absurd h List.not_mem_nil
abbrev ltb_13 (len : Nat) (xs : Nat → Int32) : AT := [(679, am_ald 1 1), (680, am_ald 0 1), (681, am_ild 4 2), (683, am_ic 1 1), (684, am_iadd), (685, lj_sld len xs), (686, am_ald 0 1), (687, am_ild 4 2), (689, am_ic 2 1), (690, am_iadd), (691, lj_sld len xs), (692, am_ald 0 1), (693, am_ild 4 2), (695, am_ic 3 1), (696, am_iadd), (697, lj_sld len xs), (698, am_ald 3 1), (702, am_ist 5 2), (704, am_ald 2 1), (705, am_ald 0 1), (706, am_ild 4 2), (708, am_ic 1 1), (709, am_iadd), (710, lj_sld len xs), (711, am_ald 0 1), (712, am_ild 4 2), (714, am_ic 2 1), (715, am_iadd), (716, lj_sld len xs), (717, am_ald 0 1), (718, am_ild 4 2), (720, am_ic 3 1), (721, am_iadd), (722, lj_sld len xs), (723, am_callV am_Y 9 128 3), (726, am_ist 6 2), (728, am_ald 2 1), (729, am_callV am_Y 9 91 0), (732, am_ild 5 2), (734, am_icmp 0 739), (737, am_ic 0 1), (739, am_ild 5 2), (741, am_if 1 756), (744, am_ald 3 1), (745, am_ic 0 1), (746, am_lald am_Y), (747, am_ild 6 2), (749, am_i2l), (750, am_lcmp 0 756), (754, am_ic 0 1), (756, am_goto 1041)]
set_option maxRecDepth 100000 in
set_option maxHeartbeats 4000000 in
theorem Lltb_13 {E : AE} {l : Launch} {p : Program} {e : Env} {s : State} {m : MethodId} {below : List Frame} {meth : Method} {c : Code} {n len : Nat} {xs : Nat → Int32} {Rt : AR} (C : lj_C E p s m meth c len xs) (hn : n ≤ 513) : ∀ q ∈ ltb_13 len xs, am_sd (am_g E l) (lj_J E l p e s m below meth c n) Rt q.2 q.1 := by
  refine List.forall_mem_cons.mpr ⟨am_aload_n_ok (k := 1) C.1 (by decide +kernel), ?_⟩
  refine List.forall_mem_cons.mpr ⟨am_aload_n_ok (k := 0) C.1 (by decide +kernel), ?_⟩
  refine List.forall_mem_cons.mpr ⟨am_iload_ok C.1 (by decide +kernel), ?_⟩
  refine List.forall_mem_cons.mpr ⟨am_iconst_ok C.1 (by decide +kernel), ?_⟩
  refine List.forall_mem_cons.mpr ⟨am_iadd_ok C.1 (by decide +kernel), ?_⟩
  refine List.forall_mem_cons.mpr ⟨lj_sld_ok (pc := 685) C (by decide +kernel), ?_⟩
  refine List.forall_mem_cons.mpr ⟨am_aload_n_ok (k := 0) C.1 (by decide +kernel), ?_⟩
  refine List.forall_mem_cons.mpr ⟨am_iload_ok C.1 (by decide +kernel), ?_⟩
  refine List.forall_mem_cons.mpr ⟨am_iconst_ok C.1 (by decide +kernel), ?_⟩
  refine List.forall_mem_cons.mpr ⟨am_iadd_ok C.1 (by decide +kernel), ?_⟩
  refine List.forall_mem_cons.mpr ⟨lj_sld_ok (pc := 691) C (by decide +kernel), ?_⟩
  refine List.forall_mem_cons.mpr ⟨am_aload_n_ok (k := 0) C.1 (by decide +kernel), ?_⟩
  refine List.forall_mem_cons.mpr ⟨am_iload_ok C.1 (by decide +kernel), ?_⟩
  refine List.forall_mem_cons.mpr ⟨am_iconst_ok C.1 (by decide +kernel), ?_⟩
  refine List.forall_mem_cons.mpr ⟨am_iadd_ok C.1 (by decide +kernel), ?_⟩
  refine List.forall_mem_cons.mpr ⟨lj_sld_ok (pc := 697) C (by decide +kernel), ?_⟩
  refine List.forall_mem_cons.mpr ⟨am_aload_n_ok (k := 3) C.1 (by decide +kernel), ?_⟩
  refine List.forall_mem_cons.mpr ⟨am_istore_ok C.1 (by decide) (by decide +kernel), ?_⟩
  refine List.forall_mem_cons.mpr ⟨am_aload_n_ok (k := 2) C.1 (by decide +kernel), ?_⟩
  refine List.forall_mem_cons.mpr ⟨am_aload_n_ok (k := 0) C.1 (by decide +kernel), ?_⟩
  refine List.forall_mem_cons.mpr ⟨am_iload_ok C.1 (by decide +kernel), ?_⟩
  refine List.forall_mem_cons.mpr ⟨am_iconst_ok C.1 (by decide +kernel), ?_⟩
  refine List.forall_mem_cons.mpr ⟨am_iadd_ok C.1 (by decide +kernel), ?_⟩
  refine List.forall_mem_cons.mpr ⟨lj_sld_ok (pc := 710) C (by decide +kernel), ?_⟩
  refine List.forall_mem_cons.mpr ⟨am_aload_n_ok (k := 0) C.1 (by decide +kernel), ?_⟩
  refine List.forall_mem_cons.mpr ⟨am_iload_ok C.1 (by decide +kernel), ?_⟩
  refine List.forall_mem_cons.mpr ⟨am_iconst_ok C.1 (by decide +kernel), ?_⟩
  refine List.forall_mem_cons.mpr ⟨am_iadd_ok C.1 (by decide +kernel), ?_⟩
  refine List.forall_mem_cons.mpr ⟨lj_sld_ok (pc := 716) C (by decide +kernel), ?_⟩
  refine List.forall_mem_cons.mpr ⟨am_aload_n_ok (k := 0) C.1 (by decide +kernel), ?_⟩
  refine List.forall_mem_cons.mpr ⟨am_iload_ok C.1 (by decide +kernel), ?_⟩
  refine List.forall_mem_cons.mpr ⟨am_iconst_ok C.1 (by decide +kernel), ?_⟩
  refine List.forall_mem_cons.mpr ⟨am_iadd_ok C.1 (by decide +kernel), ?_⟩
  refine List.forall_mem_cons.mpr ⟨lj_sld_ok (pc := 722) C (by decide +kernel), ?_⟩
  refine List.forall_mem_cons.mpr ⟨am_callVc_ok (C := R_Mo) (T := F_Mo) (N := 13) (idx := 104) C.1 rfl (am_GV mL_104 v_Mo_beside.1 v_Mo_beside.2.1 v_Mo_beside.2.2.1 v_Mo_beside.2.2.2) ⟨rfl, v_Mo_besided⟩ ⟨by decide, by decide⟩ ⟨show 35 + n ≤ 1065 by omega, show 1794 + 6 * n ≤ 10022 by omega⟩ (by decide +kernel), ?_⟩
  refine List.forall_mem_cons.mpr ⟨am_istore_ok C.1 (by decide) (by decide +kernel), ?_⟩
  refine List.forall_mem_cons.mpr ⟨am_aload_n_ok (k := 2) C.1 (by decide +kernel), ?_⟩
  refine List.forall_mem_cons.mpr ⟨am_callVc_ok (C := R_Mo) (T := F_Mo) (N := 13) (idx := 65) C.1 rfl (am_GV mL_65 v_Mo_thrown.1 v_Mo_thrown.2.1 v_Mo_thrown.2.2.1 v_Mo_thrown.2.2.2) ⟨rfl, v_Mo_thrownd⟩ ⟨by decide, by decide⟩ ⟨show 35 + n ≤ 1065 by omega, show 1794 + 6 * n ≤ 10022 by omega⟩ (by decide +kernel), ?_⟩
  refine List.forall_mem_cons.mpr ⟨am_iload_ok C.1 (by decide +kernel), ?_⟩
  refine List.forall_mem_cons.mpr ⟨am_icmp_eq_ok (off := 5) C.1 (by decide +kernel) (by decide), ?_⟩
  refine List.forall_mem_cons.mpr ⟨am_iconst_ok C.1 (by decide +kernel), ?_⟩
  refine List.forall_mem_cons.mpr ⟨am_iload_ok C.1 (by decide +kernel), ?_⟩
  refine List.forall_mem_cons.mpr ⟨am_if_ne_ok (off := 15) C.1 (by decide +kernel) (by decide), ?_⟩
  refine List.forall_mem_cons.mpr ⟨am_aload_n_ok (k := 3) C.1 (by decide +kernel), ?_⟩
  refine List.forall_mem_cons.mpr ⟨am_iconst_ok C.1 (by decide +kernel), ?_⟩
  refine List.forall_mem_cons.mpr ⟨am_lald_ok C.1 am_Y0 (by decide +kernel), ?_⟩
  refine List.forall_mem_cons.mpr ⟨am_iload_ok C.1 (by decide +kernel), ?_⟩
  refine List.forall_mem_cons.mpr ⟨am_i2l_ok C.1 (by decide +kernel), ?_⟩
  refine List.forall_mem_cons.mpr ⟨am_lcmp_eq_ok (off := 5) C.1 (by decide +kernel) (by decide +kernel) (by decide), ?_⟩
  refine List.forall_mem_cons.mpr ⟨am_iconst_ok C.1 (by decide +kernel), ?_⟩
  refine List.forall_mem_cons.mpr ⟨am_goto_ok (off := 285) C.1 (by decide +kernel) (by decide), ?_⟩
  exact fun _ h => absurd h List.not_mem_nil
abbrev ltb_14 (len : Nat) (xs : Nat → Int32) : AT := [(759, am_ald 1 1), (760, am_ald 0 1), (761, am_ild 4 2), (763, am_ic 1 1), (764, am_iadd), (765, lj_sld len xs), (766, am_callV am_Y 8 54 1), (769, am_ald 2 1), (770, am_ald 0 1), (771, am_ild 4 2), (773, am_ic 1 1), (774, am_iadd), (775, lj_sld len xs), (776, am_callV am_Y 9 129 1), (779, am_icmp 0 1041), (782, am_ic 0 1)]
set_option maxRecDepth 100000 in
set_option maxHeartbeats 4000000 in
theorem Lltb_14 {E : AE} {l : Launch} {p : Program} {e : Env} {s : State} {m : MethodId} {below : List Frame} {meth : Method} {c : Code} {n len : Nat} {xs : Nat → Int32} {Rt : AR} (C : lj_C E p s m meth c len xs) (hn : n ≤ 513) : ∀ q ∈ ltb_14 len xs, am_sd (am_g E l) (lj_J E l p e s m below meth c n) Rt q.2 q.1 := by
  refine List.forall_mem_cons.mpr ⟨am_aload_n_ok (k := 1) C.1 (by decide +kernel), ?_⟩
  refine List.forall_mem_cons.mpr ⟨am_aload_n_ok (k := 0) C.1 (by decide +kernel), ?_⟩
  refine List.forall_mem_cons.mpr ⟨am_iload_ok C.1 (by decide +kernel), ?_⟩
  refine List.forall_mem_cons.mpr ⟨am_iconst_ok C.1 (by decide +kernel), ?_⟩
  refine List.forall_mem_cons.mpr ⟨am_iadd_ok C.1 (by decide +kernel), ?_⟩
  refine List.forall_mem_cons.mpr ⟨lj_sld_ok (pc := 765) C (by decide +kernel), ?_⟩
  refine List.forall_mem_cons.mpr ⟨am_callVc_ok (C := R_De) (T := F_De) (N := 7) (idx := 105) C.1 rfl (am_GV mL_105 v_De_go.1 v_De_go.2.1 v_De_go.2.2.1 v_De_go.2.2.2) ⟨rfl, v_De_god⟩ ⟨by decide, by decide⟩ ⟨show 35 + n ≤ 1065 by omega, show 1794 + 6 * n ≤ 10022 by omega⟩ (by decide +kernel), ?_⟩
  refine List.forall_mem_cons.mpr ⟨am_aload_n_ok (k := 2) C.1 (by decide +kernel), ?_⟩
  refine List.forall_mem_cons.mpr ⟨am_aload_n_ok (k := 0) C.1 (by decide +kernel), ?_⟩
  refine List.forall_mem_cons.mpr ⟨am_iload_ok C.1 (by decide +kernel), ?_⟩
  refine List.forall_mem_cons.mpr ⟨am_iconst_ok C.1 (by decide +kernel), ?_⟩
  refine List.forall_mem_cons.mpr ⟨am_iadd_ok C.1 (by decide +kernel), ?_⟩
  refine List.forall_mem_cons.mpr ⟨lj_sld_ok (pc := 775) C (by decide +kernel), ?_⟩
  refine List.forall_mem_cons.mpr ⟨am_callVc_ok (C := R_Mo) (T := F_Mo) (N := 13) (idx := 108) C.1 rfl (am_GV mL_108 v_Mo_go.1 v_Mo_go.2.1 v_Mo_go.2.2.1 v_Mo_go.2.2.2) ⟨rfl, v_Mo_god⟩ ⟨by decide, by decide⟩ ⟨show 35 + n ≤ 1065 by omega, show 1794 + 6 * n ≤ 10022 by omega⟩ (by decide +kernel), ?_⟩
  refine List.forall_mem_cons.mpr ⟨am_icmp_eq_ok (off := 262) C.1 (by decide +kernel) (by decide), ?_⟩
  refine List.forall_mem_cons.mpr ⟨am_iconst_ok C.1 (by decide +kernel), ?_⟩
  exact fun _ h => absurd h List.not_mem_nil
abbrev ltb_15 (len : Nat) (xs : Nat → Int32) : AT := [(784, am_ald 1 1), (785, am_callV am_Y 8 55 0), (788, am_ald 2 1), (789, am_callV am_Y 9 130 0), (792, am_icmp 0 1041), (795, am_ic 0 1)]
set_option maxRecDepth 100000 in
set_option maxHeartbeats 4000000 in
theorem Lltb_15 {E : AE} {l : Launch} {p : Program} {e : Env} {s : State} {m : MethodId} {below : List Frame} {meth : Method} {c : Code} {n len : Nat} {xs : Nat → Int32} {Rt : AR} (C : lj_C E p s m meth c len xs) (hn : n ≤ 513) : ∀ q ∈ ltb_15 len xs, am_sd (am_g E l) (lj_J E l p e s m below meth c n) Rt q.2 q.1 := by
  refine List.forall_mem_cons.mpr ⟨am_aload_n_ok (k := 1) C.1 (by decide +kernel), ?_⟩
  refine List.forall_mem_cons.mpr ⟨am_callVc_ok (C := R_De) (T := F_De) (N := 7) (idx := 109) C.1 rfl (am_GV mL_109 v_De_stop.1 v_De_stop.2.1 v_De_stop.2.2.1 v_De_stop.2.2.2) ⟨rfl, v_De_stopd⟩ ⟨by decide, by decide⟩ ⟨show 35 + n ≤ 1065 by omega, show 1794 + 6 * n ≤ 10022 by omega⟩ (by decide +kernel), ?_⟩
  refine List.forall_mem_cons.mpr ⟨am_aload_n_ok (k := 2) C.1 (by decide +kernel), ?_⟩
  refine List.forall_mem_cons.mpr ⟨am_callVc_ok (C := R_Mo) (T := F_Mo) (N := 13) (idx := 112) C.1 rfl (am_GV mL_112 v_Mo_stop.1 v_Mo_stop.2.1 v_Mo_stop.2.2.1 v_Mo_stop.2.2.2) ⟨rfl, v_Mo_stopd⟩ ⟨by decide, by decide⟩ ⟨show 35 + n ≤ 1065 by omega, show 1794 + 6 * n ≤ 10022 by omega⟩ (by decide +kernel), ?_⟩
  refine List.forall_mem_cons.mpr ⟨am_icmp_eq_ok (off := 249) C.1 (by decide +kernel) (by decide), ?_⟩
  refine List.forall_mem_cons.mpr ⟨am_iconst_ok C.1 (by decide +kernel), ?_⟩
  exact fun _ h => absurd h List.not_mem_nil
abbrev ltb_16 (len : Nat) (xs : Nat → Int32) : AT := [(797, am_ald 1 1), (798, am_ald 0 1), (799, am_ild 4 2), (801, am_ic 1 1), (802, am_iadd), (803, lj_sld len xs), (804, am_callV am_Y 8 56 1), (807, am_ald 2 1), (808, am_ald 0 1), (809, am_ild 4 2), (811, am_ic 1 1), (812, am_iadd), (813, lj_sld len xs), (814, am_callV am_Y 9 131 1), (817, am_icmp 0 1041), (820, am_ic 0 1)]
set_option maxRecDepth 100000 in
set_option maxHeartbeats 4000000 in
theorem Lltb_16 {E : AE} {l : Launch} {p : Program} {e : Env} {s : State} {m : MethodId} {below : List Frame} {meth : Method} {c : Code} {n len : Nat} {xs : Nat → Int32} {Rt : AR} (C : lj_C E p s m meth c len xs) (hn : n ≤ 513) : ∀ q ∈ ltb_16 len xs, am_sd (am_g E l) (lj_J E l p e s m below meth c n) Rt q.2 q.1 := by
  refine List.forall_mem_cons.mpr ⟨am_aload_n_ok (k := 1) C.1 (by decide +kernel), ?_⟩
  refine List.forall_mem_cons.mpr ⟨am_aload_n_ok (k := 0) C.1 (by decide +kernel), ?_⟩
  refine List.forall_mem_cons.mpr ⟨am_iload_ok C.1 (by decide +kernel), ?_⟩
  refine List.forall_mem_cons.mpr ⟨am_iconst_ok C.1 (by decide +kernel), ?_⟩
  refine List.forall_mem_cons.mpr ⟨am_iadd_ok C.1 (by decide +kernel), ?_⟩
  refine List.forall_mem_cons.mpr ⟨lj_sld_ok (pc := 803) C (by decide +kernel), ?_⟩
  refine List.forall_mem_cons.mpr ⟨am_callVc_ok (C := R_De) (T := F_De) (N := 7) (idx := 113) C.1 rfl (am_GV mL_113 v_De_place.1 v_De_place.2.1 v_De_place.2.2.1 v_De_place.2.2.2) ⟨rfl, v_De_placed⟩ ⟨by decide, by decide⟩ ⟨show 35 + n ≤ 1065 by omega, show 1794 + 6 * n ≤ 10022 by omega⟩ (by decide +kernel), ?_⟩
  refine List.forall_mem_cons.mpr ⟨am_aload_n_ok (k := 2) C.1 (by decide +kernel), ?_⟩
  refine List.forall_mem_cons.mpr ⟨am_aload_n_ok (k := 0) C.1 (by decide +kernel), ?_⟩
  refine List.forall_mem_cons.mpr ⟨am_iload_ok C.1 (by decide +kernel), ?_⟩
  refine List.forall_mem_cons.mpr ⟨am_iconst_ok C.1 (by decide +kernel), ?_⟩
  refine List.forall_mem_cons.mpr ⟨am_iadd_ok C.1 (by decide +kernel), ?_⟩
  refine List.forall_mem_cons.mpr ⟨lj_sld_ok (pc := 813) C (by decide +kernel), ?_⟩
  refine List.forall_mem_cons.mpr ⟨am_callVc_ok (C := R_Mo) (T := F_Mo) (N := 13) (idx := 116) C.1 rfl (am_GV mL_116 v_Mo_place.1 v_Mo_place.2.1 v_Mo_place.2.2.1 v_Mo_place.2.2.2) ⟨rfl, v_Mo_placed⟩ ⟨by decide, by decide⟩ ⟨show 35 + n ≤ 1065 by omega, show 1794 + 6 * n ≤ 10022 by omega⟩ (by decide +kernel), ?_⟩
  refine List.forall_mem_cons.mpr ⟨am_icmp_eq_ok (off := 224) C.1 (by decide +kernel) (by decide), ?_⟩
  refine List.forall_mem_cons.mpr ⟨am_iconst_ok C.1 (by decide +kernel), ?_⟩
  exact fun _ h => absurd h List.not_mem_nil
abbrev ltb_17 (len : Nat) (xs : Nat → Int32) : AT := [(822, am_ald 1 1), (823, am_ald 0 1), (824, am_ild 4 2), (826, am_ic 1 1), (827, am_iadd), (828, lj_sld len xs), (829, am_ald 0 1), (830, am_ild 4 2), (832, am_ic 2 1), (833, am_iadd), (834, lj_sld len xs), (838, am_ist 5 2), (840, am_ald 2 1), (841, am_ald 0 1), (842, am_ild 4 2), (844, am_ic 1 1), (845, am_iadd), (846, lj_sld len xs), (847, am_ald 0 1), (848, am_ild 4 2), (850, am_ic 2 1), (851, am_iadd), (852, lj_sld len xs), (853, am_callV am_Y 9 132 2), (856, am_ald 2 1), (857, am_callV am_Y 9 91 0), (860, am_ild 5 2), (862, am_icmp 0 867), (865, am_ic 0 1), (867, am_goto 1041)]
set_option maxRecDepth 100000 in
set_option maxHeartbeats 4000000 in
theorem Lltb_17 {E : AE} {l : Launch} {p : Program} {e : Env} {s : State} {m : MethodId} {below : List Frame} {meth : Method} {c : Code} {n len : Nat} {xs : Nat → Int32} {Rt : AR} (C : lj_C E p s m meth c len xs) (hn : n ≤ 513) : ∀ q ∈ ltb_17 len xs, am_sd (am_g E l) (lj_J E l p e s m below meth c n) Rt q.2 q.1 := by
  refine List.forall_mem_cons.mpr ⟨am_aload_n_ok (k := 1) C.1 (by decide +kernel), ?_⟩
  refine List.forall_mem_cons.mpr ⟨am_aload_n_ok (k := 0) C.1 (by decide +kernel), ?_⟩
  refine List.forall_mem_cons.mpr ⟨am_iload_ok C.1 (by decide +kernel), ?_⟩
  refine List.forall_mem_cons.mpr ⟨am_iconst_ok C.1 (by decide +kernel), ?_⟩
  refine List.forall_mem_cons.mpr ⟨am_iadd_ok C.1 (by decide +kernel), ?_⟩
  refine List.forall_mem_cons.mpr ⟨lj_sld_ok (pc := 828) C (by decide +kernel), ?_⟩
  refine List.forall_mem_cons.mpr ⟨am_aload_n_ok (k := 0) C.1 (by decide +kernel), ?_⟩
  refine List.forall_mem_cons.mpr ⟨am_iload_ok C.1 (by decide +kernel), ?_⟩
  refine List.forall_mem_cons.mpr ⟨am_iconst_ok C.1 (by decide +kernel), ?_⟩
  refine List.forall_mem_cons.mpr ⟨am_iadd_ok C.1 (by decide +kernel), ?_⟩
  refine List.forall_mem_cons.mpr ⟨lj_sld_ok (pc := 834) C (by decide +kernel), ?_⟩
  refine List.forall_mem_cons.mpr ⟨am_istore_ok C.1 (by decide) (by decide +kernel), ?_⟩
  refine List.forall_mem_cons.mpr ⟨am_aload_n_ok (k := 2) C.1 (by decide +kernel), ?_⟩
  refine List.forall_mem_cons.mpr ⟨am_aload_n_ok (k := 0) C.1 (by decide +kernel), ?_⟩
  refine List.forall_mem_cons.mpr ⟨am_iload_ok C.1 (by decide +kernel), ?_⟩
  refine List.forall_mem_cons.mpr ⟨am_iconst_ok C.1 (by decide +kernel), ?_⟩
  refine List.forall_mem_cons.mpr ⟨am_iadd_ok C.1 (by decide +kernel), ?_⟩
  refine List.forall_mem_cons.mpr ⟨lj_sld_ok (pc := 846) C (by decide +kernel), ?_⟩
  refine List.forall_mem_cons.mpr ⟨am_aload_n_ok (k := 0) C.1 (by decide +kernel), ?_⟩
  refine List.forall_mem_cons.mpr ⟨am_iload_ok C.1 (by decide +kernel), ?_⟩
  refine List.forall_mem_cons.mpr ⟨am_iconst_ok C.1 (by decide +kernel), ?_⟩
  refine List.forall_mem_cons.mpr ⟨am_iadd_ok C.1 (by decide +kernel), ?_⟩
  refine List.forall_mem_cons.mpr ⟨lj_sld_ok (pc := 852) C (by decide +kernel), ?_⟩
  refine List.forall_mem_cons.mpr ⟨am_callVc_ok (C := R_Mo) (T := F_Mo) (N := 13) (idx := 120) C.1 rfl (am_GV mL_120 v_Mo_turn.1 v_Mo_turn.2.1 v_Mo_turn.2.2.1 v_Mo_turn.2.2.2) ⟨rfl, v_Mo_turnd⟩ ⟨by decide, by decide⟩ ⟨show 35 + n ≤ 1065 by omega, show 1794 + 6 * n ≤ 10022 by omega⟩ (by decide +kernel), ?_⟩
  refine List.forall_mem_cons.mpr ⟨am_aload_n_ok (k := 2) C.1 (by decide +kernel), ?_⟩
  refine List.forall_mem_cons.mpr ⟨am_callVc_ok (C := R_Mo) (T := F_Mo) (N := 13) (idx := 65) C.1 rfl (am_GV mL_65 v_Mo_thrown.1 v_Mo_thrown.2.1 v_Mo_thrown.2.2.1 v_Mo_thrown.2.2.2) ⟨rfl, v_Mo_thrownd⟩ ⟨by decide, by decide⟩ ⟨show 35 + n ≤ 1065 by omega, show 1794 + 6 * n ≤ 10022 by omega⟩ (by decide +kernel), ?_⟩
  refine List.forall_mem_cons.mpr ⟨am_iload_ok C.1 (by decide +kernel), ?_⟩
  refine List.forall_mem_cons.mpr ⟨am_icmp_eq_ok (off := 5) C.1 (by decide +kernel) (by decide), ?_⟩
  refine List.forall_mem_cons.mpr ⟨am_iconst_ok C.1 (by decide +kernel), ?_⟩
  refine List.forall_mem_cons.mpr ⟨am_goto_ok (off := 174) C.1 (by decide +kernel) (by decide), ?_⟩
  exact fun _ h => absurd h List.not_mem_nil
abbrev ltb_18 (len : Nat) (xs : Nat → Int32) : AT := [(870, am_ald 1 1), (871, am_callV am_Y 8 66 0), (874, am_ald 2 1), (875, am_callV am_Y 9 138 0), (878, am_icmp 0 1041), (881, am_ic 0 1)]
set_option maxRecDepth 100000 in
set_option maxHeartbeats 4000000 in
theorem Lltb_18 {E : AE} {l : Launch} {p : Program} {e : Env} {s : State} {m : MethodId} {below : List Frame} {meth : Method} {c : Code} {n len : Nat} {xs : Nat → Int32} {Rt : AR} (C : lj_C E p s m meth c len xs) (hn : n ≤ 513) : ∀ q ∈ ltb_18 len xs, am_sd (am_g E l) (lj_J E l p e s m below meth c n) Rt q.2 q.1 := by
  refine List.forall_mem_cons.mpr ⟨am_aload_n_ok (k := 1) C.1 (by decide +kernel), ?_⟩
  refine List.forall_mem_cons.mpr ⟨am_callVc_ok (C := R_De) (T := F_De) (N := 7) (idx := 121) C.1 rfl (am_GV mL_121 v_De_crossings.1 v_De_crossings.2.1 v_De_crossings.2.2.1 v_De_crossings.2.2.2) ⟨rfl, v_De_crossingsd⟩ ⟨by decide, by decide⟩ ⟨show 35 + n ≤ 1065 by omega, show 1794 + 6 * n ≤ 10022 by omega⟩ (by decide +kernel), ?_⟩
  refine List.forall_mem_cons.mpr ⟨am_aload_n_ok (k := 2) C.1 (by decide +kernel), ?_⟩
  refine List.forall_mem_cons.mpr ⟨am_callVc_ok (C := R_Mo) (T := F_Mo) (N := 13) (idx := 124) C.1 rfl (am_GV mL_124 v_Mo_crossings.1 v_Mo_crossings.2.1 v_Mo_crossings.2.2.1 v_Mo_crossings.2.2.2) ⟨rfl, v_Mo_crossingsd⟩ ⟨by decide, by decide⟩ ⟨show 35 + n ≤ 1065 by omega, show 1794 + 6 * n ≤ 10022 by omega⟩ (by decide +kernel), ?_⟩
  refine List.forall_mem_cons.mpr ⟨am_icmp_eq_ok (off := 163) C.1 (by decide +kernel) (by decide), ?_⟩
  refine List.forall_mem_cons.mpr ⟨am_iconst_ok C.1 (by decide +kernel), ?_⟩
  exact fun _ h => absurd h List.not_mem_nil
abbrev ltb_19 (len : Nat) (xs : Nat → Int32) : AT := [(883, am_ald 1 1), (884, am_ald 0 1), (885, am_ild 4 2), (887, am_ic 1 1), (888, am_iadd), (889, lj_sld len xs), (890, am_callV am_Y 8 67 1), (893, am_ald 2 1), (894, am_ald 0 1), (895, am_ild 4 2), (897, am_ic 1 1), (898, am_iadd), (899, lj_sld len xs), (900, am_callV am_Y 9 139 1), (903, am_icmp 0 1041), (906, am_ic 0 1)]
set_option maxRecDepth 100000 in
set_option maxHeartbeats 4000000 in
theorem Lltb_19 {E : AE} {l : Launch} {p : Program} {e : Env} {s : State} {m : MethodId} {below : List Frame} {meth : Method} {c : Code} {n len : Nat} {xs : Nat → Int32} {Rt : AR} (C : lj_C E p s m meth c len xs) (hn : n ≤ 513) : ∀ q ∈ ltb_19 len xs, am_sd (am_g E l) (lj_J E l p e s m below meth c n) Rt q.2 q.1 := by
  refine List.forall_mem_cons.mpr ⟨am_aload_n_ok (k := 1) C.1 (by decide +kernel), ?_⟩
  refine List.forall_mem_cons.mpr ⟨am_aload_n_ok (k := 0) C.1 (by decide +kernel), ?_⟩
  refine List.forall_mem_cons.mpr ⟨am_iload_ok C.1 (by decide +kernel), ?_⟩
  refine List.forall_mem_cons.mpr ⟨am_iconst_ok C.1 (by decide +kernel), ?_⟩
  refine List.forall_mem_cons.mpr ⟨am_iadd_ok C.1 (by decide +kernel), ?_⟩
  refine List.forall_mem_cons.mpr ⟨lj_sld_ok (pc := 889) C (by decide +kernel), ?_⟩
  refine List.forall_mem_cons.mpr ⟨am_callVc_ok (C := R_De) (T := F_De) (N := 7) (idx := 125) C.1 rfl (am_GV mL_125 v_De_crossing.1 v_De_crossing.2.1 v_De_crossing.2.2.1 v_De_crossing.2.2.2) ⟨rfl, v_De_crossingd⟩ ⟨by decide, by decide⟩ ⟨show 35 + n ≤ 1065 by omega, show 1794 + 6 * n ≤ 10022 by omega⟩ (by decide +kernel), ?_⟩
  refine List.forall_mem_cons.mpr ⟨am_aload_n_ok (k := 2) C.1 (by decide +kernel), ?_⟩
  refine List.forall_mem_cons.mpr ⟨am_aload_n_ok (k := 0) C.1 (by decide +kernel), ?_⟩
  refine List.forall_mem_cons.mpr ⟨am_iload_ok C.1 (by decide +kernel), ?_⟩
  refine List.forall_mem_cons.mpr ⟨am_iconst_ok C.1 (by decide +kernel), ?_⟩
  refine List.forall_mem_cons.mpr ⟨am_iadd_ok C.1 (by decide +kernel), ?_⟩
  refine List.forall_mem_cons.mpr ⟨lj_sld_ok (pc := 899) C (by decide +kernel), ?_⟩
  refine List.forall_mem_cons.mpr ⟨am_callVc_ok (C := R_Mo) (T := F_Mo) (N := 13) (idx := 128) C.1 rfl (am_GV mL_128 v_Mo_crossing.1 v_Mo_crossing.2.1 v_Mo_crossing.2.2.1 v_Mo_crossing.2.2.2) ⟨rfl, v_Mo_crossingd⟩ ⟨by decide, by decide⟩ ⟨show 35 + n ≤ 1065 by omega, show 1794 + 6 * n ≤ 10022 by omega⟩ (by decide +kernel), ?_⟩
  refine List.forall_mem_cons.mpr ⟨am_icmp_eq_ok (off := 138) C.1 (by decide +kernel) (by decide), ?_⟩
  refine List.forall_mem_cons.mpr ⟨am_iconst_ok C.1 (by decide +kernel), ?_⟩
  exact fun _ h => absurd h List.not_mem_nil
abbrev ltb_20 (len : Nat) (xs : Nat → Int32) : AT := [(908, am_ald 1 1), (909, am_callV am_Y 8 69 0), (912, am_ald 2 1), (913, am_callV am_Y 9 141 0), (916, am_icmp 0 1041), (919, am_ic 0 1)]
set_option maxRecDepth 100000 in
set_option maxHeartbeats 4000000 in
theorem Lltb_20 {E : AE} {l : Launch} {p : Program} {e : Env} {s : State} {m : MethodId} {below : List Frame} {meth : Method} {c : Code} {n len : Nat} {xs : Nat → Int32} {Rt : AR} (C : lj_C E p s m meth c len xs) (hn : n ≤ 513) : ∀ q ∈ ltb_20 len xs, am_sd (am_g E l) (lj_J E l p e s m below meth c n) Rt q.2 q.1 := by
  refine List.forall_mem_cons.mpr ⟨am_aload_n_ok (k := 1) C.1 (by decide +kernel), ?_⟩
  refine List.forall_mem_cons.mpr ⟨am_callVc_ok (C := R_De) (T := F_De) (N := 7) (idx := 129) C.1 rfl (am_GV mL_129 v_De_simple.1 v_De_simple.2.1 v_De_simple.2.2.1 v_De_simple.2.2.2) ⟨rfl, v_De_simpled⟩ ⟨by decide, by decide⟩ ⟨show 35 + n ≤ 1065 by omega, show 1794 + 6 * n ≤ 10022 by omega⟩ (by decide +kernel), ?_⟩
  refine List.forall_mem_cons.mpr ⟨am_aload_n_ok (k := 2) C.1 (by decide +kernel), ?_⟩
  refine List.forall_mem_cons.mpr ⟨am_callVc_ok (C := R_Mo) (T := F_Mo) (N := 13) (idx := 132) C.1 rfl (am_GV mL_132 v_Mo_simple.1 v_Mo_simple.2.1 v_Mo_simple.2.2.1 v_Mo_simple.2.2.2) ⟨rfl, v_Mo_simpled⟩ ⟨by decide, by decide⟩ ⟨show 35 + n ≤ 1065 by omega, show 1794 + 6 * n ≤ 10022 by omega⟩ (by decide +kernel), ?_⟩
  refine List.forall_mem_cons.mpr ⟨am_icmp_eq_ok (off := 125) C.1 (by decide +kernel) (by decide), ?_⟩
  refine List.forall_mem_cons.mpr ⟨am_iconst_ok C.1 (by decide +kernel), ?_⟩
  exact fun _ h => absurd h List.not_mem_nil
abbrev ltb_21 (len : Nat) (xs : Nat → Int32) : AT := [(921, am_ald 1 1), (922, am_callV am_Y 8 72 0), (925, am_ald 2 1), (926, am_callV am_Y 9 143 0), (929, am_lcmp 0 1041), (933, am_ic 0 1)]
set_option maxRecDepth 100000 in
set_option maxHeartbeats 4000000 in
theorem Lltb_21 {E : AE} {l : Launch} {p : Program} {e : Env} {s : State} {m : MethodId} {below : List Frame} {meth : Method} {c : Code} {n len : Nat} {xs : Nat → Int32} {Rt : AR} (C : lj_C E p s m meth c len xs) (hn : n ≤ 513) : ∀ q ∈ ltb_21 len xs, am_sd (am_g E l) (lj_J E l p e s m below meth c n) Rt q.2 q.1 := by
  refine List.forall_mem_cons.mpr ⟨am_aload_n_ok (k := 1) C.1 (by decide +kernel), ?_⟩
  refine List.forall_mem_cons.mpr ⟨am_callVc_ok (C := R_De) (T := F_De) (N := 7) (idx := 133) C.1 rfl (am_GV mL_133 v_De_round.1 v_De_round.2.1 v_De_round.2.2.1 v_De_round.2.2.2) ⟨rfl, v_De_roundd⟩ ⟨by decide, by decide⟩ ⟨show 35 + n ≤ 1065 by omega, show 1794 + 6 * n ≤ 10022 by omega⟩ (by decide +kernel), ?_⟩
  refine List.forall_mem_cons.mpr ⟨am_aload_n_ok (k := 2) C.1 (by decide +kernel), ?_⟩
  refine List.forall_mem_cons.mpr ⟨am_callVc_ok (C := R_Mo) (T := F_Mo) (N := 13) (idx := 136) C.1 rfl (am_GV mL_136 v_Mo_round.1 v_Mo_round.2.1 v_Mo_round.2.2.1 v_Mo_round.2.2.2) ⟨rfl, v_Mo_roundd⟩ ⟨by decide, by decide⟩ ⟨show 35 + n ≤ 1065 by omega, show 1794 + 6 * n ≤ 10022 by omega⟩ (by decide +kernel), ?_⟩
  refine List.forall_mem_cons.mpr ⟨am_lcmp_eq_ok (off := 111) C.1 (by decide +kernel) (by decide +kernel) (by decide), ?_⟩
  refine List.forall_mem_cons.mpr ⟨am_iconst_ok C.1 (by decide +kernel), ?_⟩
  exact fun _ h => absurd h List.not_mem_nil
abbrev ltb_22 (len : Nat) (xs : Nat → Int32) : AT := [(935, am_ald 1 1), (936, am_ald 0 1), (937, am_ild 4 2), (939, am_ic 1 1), (940, am_iadd), (941, lj_sld len xs), (942, am_ald 0 1), (943, am_ild 4 2), (945, am_ic 2 1), (946, am_iadd), (947, lj_sld len xs), (948, am_ald 3 1), (952, am_ist 5 2), (954, am_ald 2 1), (955, am_ald 0 1), (956, am_ild 4 2), (958, am_ic 1 1), (959, am_iadd), (960, lj_sld len xs), (961, am_ald 0 1), (962, am_ild 4 2), (964, am_ic 2 1), (965, am_iadd), (966, lj_sld len xs), (967, am_callV am_Y 9 144 2), (970, am_ist 6 2), (972, am_ald 2 1), (973, am_callV am_Y 9 91 0), (976, am_ild 5 2), (978, am_icmp 0 983), (981, am_ic 0 1), (983, am_ild 5 2), (985, am_if 1 1000), (988, am_ald 3 1), (989, am_ic 0 1), (990, am_lald am_Y), (991, am_ild 6 2), (993, am_i2l), (994, am_lcmp 0 1000), (998, am_ic 0 1), (1000, am_goto 1041)]
set_option maxRecDepth 100000 in
set_option maxHeartbeats 4000000 in
theorem Lltb_22 {E : AE} {l : Launch} {p : Program} {e : Env} {s : State} {m : MethodId} {below : List Frame} {meth : Method} {c : Code} {n len : Nat} {xs : Nat → Int32} {Rt : AR} (C : lj_C E p s m meth c len xs) (hn : n ≤ 513) : ∀ q ∈ ltb_22 len xs, am_sd (am_g E l) (lj_J E l p e s m below meth c n) Rt q.2 q.1 := by
  refine List.forall_mem_cons.mpr ⟨am_aload_n_ok (k := 1) C.1 (by decide +kernel), ?_⟩
  refine List.forall_mem_cons.mpr ⟨am_aload_n_ok (k := 0) C.1 (by decide +kernel), ?_⟩
  refine List.forall_mem_cons.mpr ⟨am_iload_ok C.1 (by decide +kernel), ?_⟩
  refine List.forall_mem_cons.mpr ⟨am_iconst_ok C.1 (by decide +kernel), ?_⟩
  refine List.forall_mem_cons.mpr ⟨am_iadd_ok C.1 (by decide +kernel), ?_⟩
  refine List.forall_mem_cons.mpr ⟨lj_sld_ok (pc := 941) C (by decide +kernel), ?_⟩
  refine List.forall_mem_cons.mpr ⟨am_aload_n_ok (k := 0) C.1 (by decide +kernel), ?_⟩
  refine List.forall_mem_cons.mpr ⟨am_iload_ok C.1 (by decide +kernel), ?_⟩
  refine List.forall_mem_cons.mpr ⟨am_iconst_ok C.1 (by decide +kernel), ?_⟩
  refine List.forall_mem_cons.mpr ⟨am_iadd_ok C.1 (by decide +kernel), ?_⟩
  refine List.forall_mem_cons.mpr ⟨lj_sld_ok (pc := 947) C (by decide +kernel), ?_⟩
  refine List.forall_mem_cons.mpr ⟨am_aload_n_ok (k := 3) C.1 (by decide +kernel), ?_⟩
  refine List.forall_mem_cons.mpr ⟨am_istore_ok C.1 (by decide) (by decide +kernel), ?_⟩
  refine List.forall_mem_cons.mpr ⟨am_aload_n_ok (k := 2) C.1 (by decide +kernel), ?_⟩
  refine List.forall_mem_cons.mpr ⟨am_aload_n_ok (k := 0) C.1 (by decide +kernel), ?_⟩
  refine List.forall_mem_cons.mpr ⟨am_iload_ok C.1 (by decide +kernel), ?_⟩
  refine List.forall_mem_cons.mpr ⟨am_iconst_ok C.1 (by decide +kernel), ?_⟩
  refine List.forall_mem_cons.mpr ⟨am_iadd_ok C.1 (by decide +kernel), ?_⟩
  refine List.forall_mem_cons.mpr ⟨lj_sld_ok (pc := 960) C (by decide +kernel), ?_⟩
  refine List.forall_mem_cons.mpr ⟨am_aload_n_ok (k := 0) C.1 (by decide +kernel), ?_⟩
  refine List.forall_mem_cons.mpr ⟨am_iload_ok C.1 (by decide +kernel), ?_⟩
  refine List.forall_mem_cons.mpr ⟨am_iconst_ok C.1 (by decide +kernel), ?_⟩
  refine List.forall_mem_cons.mpr ⟨am_iadd_ok C.1 (by decide +kernel), ?_⟩
  refine List.forall_mem_cons.mpr ⟨lj_sld_ok (pc := 966) C (by decide +kernel), ?_⟩
  refine List.forall_mem_cons.mpr ⟨am_callVc_ok (C := R_Mo) (T := F_Mo) (N := 13) (idx := 139) C.1 rfl (am_GV mL_139 v_Mo_inside.1 v_Mo_inside.2.1 v_Mo_inside.2.2.1 v_Mo_inside.2.2.2) ⟨rfl, v_Mo_insided⟩ ⟨by decide, by decide⟩ ⟨show 35 + n ≤ 1065 by omega, show 1794 + 6 * n ≤ 10022 by omega⟩ (by decide +kernel), ?_⟩
  refine List.forall_mem_cons.mpr ⟨am_istore_ok C.1 (by decide) (by decide +kernel), ?_⟩
  refine List.forall_mem_cons.mpr ⟨am_aload_n_ok (k := 2) C.1 (by decide +kernel), ?_⟩
  refine List.forall_mem_cons.mpr ⟨am_callVc_ok (C := R_Mo) (T := F_Mo) (N := 13) (idx := 65) C.1 rfl (am_GV mL_65 v_Mo_thrown.1 v_Mo_thrown.2.1 v_Mo_thrown.2.2.1 v_Mo_thrown.2.2.2) ⟨rfl, v_Mo_thrownd⟩ ⟨by decide, by decide⟩ ⟨show 35 + n ≤ 1065 by omega, show 1794 + 6 * n ≤ 10022 by omega⟩ (by decide +kernel), ?_⟩
  refine List.forall_mem_cons.mpr ⟨am_iload_ok C.1 (by decide +kernel), ?_⟩
  refine List.forall_mem_cons.mpr ⟨am_icmp_eq_ok (off := 5) C.1 (by decide +kernel) (by decide), ?_⟩
  refine List.forall_mem_cons.mpr ⟨am_iconst_ok C.1 (by decide +kernel), ?_⟩
  refine List.forall_mem_cons.mpr ⟨am_iload_ok C.1 (by decide +kernel), ?_⟩
  refine List.forall_mem_cons.mpr ⟨am_if_ne_ok (off := 15) C.1 (by decide +kernel) (by decide), ?_⟩
  refine List.forall_mem_cons.mpr ⟨am_aload_n_ok (k := 3) C.1 (by decide +kernel), ?_⟩
  refine List.forall_mem_cons.mpr ⟨am_iconst_ok C.1 (by decide +kernel), ?_⟩
  refine List.forall_mem_cons.mpr ⟨am_lald_ok C.1 am_Y0 (by decide +kernel), ?_⟩
  refine List.forall_mem_cons.mpr ⟨am_iload_ok C.1 (by decide +kernel), ?_⟩
  refine List.forall_mem_cons.mpr ⟨am_i2l_ok C.1 (by decide +kernel), ?_⟩
  refine List.forall_mem_cons.mpr ⟨am_lcmp_eq_ok (off := 5) C.1 (by decide +kernel) (by decide +kernel) (by decide), ?_⟩
  refine List.forall_mem_cons.mpr ⟨am_iconst_ok C.1 (by decide +kernel), ?_⟩
  refine List.forall_mem_cons.mpr ⟨am_goto_ok (off := 41) C.1 (by decide +kernel) (by decide), ?_⟩
  exact fun _ h => absurd h List.not_mem_nil
abbrev ltb_23 (len : Nat) (xs : Nat → Int32) : AT := [(1003, am_ald 1 1), (1004, am_ald 0 1), (1005, am_ild 4 2), (1007, am_ic 1 1), (1008, am_iadd), (1009, lj_sld len xs), (1010, am_callV am_Y 8 86 1), (1013, am_ald 2 1), (1014, am_ald 0 1), (1015, am_ild 4 2), (1017, am_ic 1 1), (1018, am_iadd), (1019, lj_sld len xs), (1020, am_callV am_Y 9 147 1), (1023, am_icmp 0 1041), (1026, am_ic 0 1)]
set_option maxRecDepth 100000 in
set_option maxHeartbeats 4000000 in
theorem Lltb_23 {E : AE} {l : Launch} {p : Program} {e : Env} {s : State} {m : MethodId} {below : List Frame} {meth : Method} {c : Code} {n len : Nat} {xs : Nat → Int32} {Rt : AR} (C : lj_C E p s m meth c len xs) (hn : n ≤ 513) : ∀ q ∈ ltb_23 len xs, am_sd (am_g E l) (lj_J E l p e s m below meth c n) Rt q.2 q.1 := by
  refine List.forall_mem_cons.mpr ⟨am_aload_n_ok (k := 1) C.1 (by decide +kernel), ?_⟩
  refine List.forall_mem_cons.mpr ⟨am_aload_n_ok (k := 0) C.1 (by decide +kernel), ?_⟩
  refine List.forall_mem_cons.mpr ⟨am_iload_ok C.1 (by decide +kernel), ?_⟩
  refine List.forall_mem_cons.mpr ⟨am_iconst_ok C.1 (by decide +kernel), ?_⟩
  refine List.forall_mem_cons.mpr ⟨am_iadd_ok C.1 (by decide +kernel), ?_⟩
  refine List.forall_mem_cons.mpr ⟨lj_sld_ok (pc := 1009) C (by decide +kernel), ?_⟩
  refine List.forall_mem_cons.mpr ⟨am_callVc_ok (C := R_De) (T := F_De) (N := 7) (idx := 140) C.1 rfl (am_GV mL_140 v_De_triangle.1 v_De_triangle.2.1 v_De_triangle.2.2.1 v_De_triangle.2.2.2) ⟨rfl, v_De_triangled⟩ ⟨by decide, by decide⟩ ⟨show 35 + n ≤ 1065 by omega, show 1794 + 6 * n ≤ 10022 by omega⟩ (by decide +kernel), ?_⟩
  refine List.forall_mem_cons.mpr ⟨am_aload_n_ok (k := 2) C.1 (by decide +kernel), ?_⟩
  refine List.forall_mem_cons.mpr ⟨am_aload_n_ok (k := 0) C.1 (by decide +kernel), ?_⟩
  refine List.forall_mem_cons.mpr ⟨am_iload_ok C.1 (by decide +kernel), ?_⟩
  refine List.forall_mem_cons.mpr ⟨am_iconst_ok C.1 (by decide +kernel), ?_⟩
  refine List.forall_mem_cons.mpr ⟨am_iadd_ok C.1 (by decide +kernel), ?_⟩
  refine List.forall_mem_cons.mpr ⟨lj_sld_ok (pc := 1019) C (by decide +kernel), ?_⟩
  refine List.forall_mem_cons.mpr ⟨am_callVc_ok (C := R_Mo) (T := F_Mo) (N := 13) (idx := 143) C.1 rfl (am_GV mL_143 v_Mo_triangle.1 v_Mo_triangle.2.1 v_Mo_triangle.2.2.1 v_Mo_triangle.2.2.2) ⟨rfl, v_Mo_triangled⟩ ⟨by decide, by decide⟩ ⟨show 35 + n ≤ 1065 by omega, show 1794 + 6 * n ≤ 10022 by omega⟩ (by decide +kernel), ?_⟩
  refine List.forall_mem_cons.mpr ⟨am_icmp_eq_ok (off := 18) C.1 (by decide +kernel) (by decide), ?_⟩
  refine List.forall_mem_cons.mpr ⟨am_iconst_ok C.1 (by decide +kernel), ?_⟩
  exact fun _ h => absurd h List.not_mem_nil
abbrev ltb_24 (len : Nat) (xs : Nat → Int32) : AT := [(1028, am_ald 1 1), (1029, am_callV am_Y 8 90 0), (1032, am_ald 2 1), (1033, am_callV am_Y 9 148 0), (1036, am_icmp 0 1041), (1039, am_ic 0 1)]
set_option maxRecDepth 100000 in
set_option maxHeartbeats 4000000 in
theorem Lltb_24 {E : AE} {l : Launch} {p : Program} {e : Env} {s : State} {m : MethodId} {below : List Frame} {meth : Method} {c : Code} {n len : Nat} {xs : Nat → Int32} {Rt : AR} (C : lj_C E p s m meth c len xs) (hn : n ≤ 513) : ∀ q ∈ ltb_24 len xs, am_sd (am_g E l) (lj_J E l p e s m below meth c n) Rt q.2 q.1 := by
  refine List.forall_mem_cons.mpr ⟨am_aload_n_ok (k := 1) C.1 (by decide +kernel), ?_⟩
  refine List.forall_mem_cons.mpr ⟨am_callVc_ok (C := R_De) (T := F_De) (N := 7) (idx := 144) C.1 rfl (am_GV mL_144 v_De_check.1 v_De_check.2.1 v_De_check.2.2.1 v_De_check.2.2.2) ⟨rfl, v_De_checkd⟩ ⟨by decide, by decide⟩ ⟨show 35 + n ≤ 1065 by omega, show 1794 + 6 * n ≤ 10022 by omega⟩ (by decide +kernel), ?_⟩
  refine List.forall_mem_cons.mpr ⟨am_aload_n_ok (k := 2) C.1 (by decide +kernel), ?_⟩
  refine List.forall_mem_cons.mpr ⟨am_callVc_ok (C := R_Mo) (T := F_Mo) (N := 13) (idx := 147) C.1 rfl (am_GV mL_147 v_Mo_check.1 v_Mo_check.2.1 v_Mo_check.2.2.1 v_Mo_check.2.2.2) ⟨rfl, v_Mo_checkd⟩ ⟨by decide, by decide⟩ ⟨show 35 + n ≤ 1065 by omega, show 1794 + 6 * n ≤ 10022 by omega⟩ (by decide +kernel), ?_⟩
  refine List.forall_mem_cons.mpr ⟨am_icmp_eq_ok (off := 5) C.1 (by decide +kernel) (by decide), ?_⟩
  refine List.forall_mem_cons.mpr ⟨am_iconst_ok C.1 (by decide +kernel), ?_⟩
  exact fun _ h => absurd h List.not_mem_nil
theorem lj_close {E : AE} {l : Launch} {tbl : AT} {J : AJ} (hT : ∀ q ∈ tbl, am_sd (am_g E l) J (fun _ _ => False) q.2 q.1) : ∀ pc L S h, am_s tbl (am_g E l) J (fun _ _ => False) pc L S h → J pc L S h := by
  intro pc L S h hs
  unfold am_s at hs
  split at hs
  · rename_i f hf
    have hmem : (pc, f) ∈ tbl := by
      obtain ⟨l1, l2, e1, -⟩ := List.lookup_eq_some_iff.mp hf
      rw [e1]; simp
    exact hT (pc, f) hmem L S h hs
  · exact hs.elim
theorem hp_mono {E : AE} {l : Launch} {s0 : State} {q : HM} {as : List AV} {h : AH} {Q Q' : AR} (hg : hp_G E l s0 q as h Q) (hQ : ∀ r h', Q r h' → Q' r h') : hp_G E l s0 q as h Q' := by
  intro sz p e ha hc hk s m args below hf happ hP hK
  obtain ⟨n, o, h1, h2, h3, ⟨⟨⟨r, h', q1, q2, q3⟩, q4⟩, q5⟩⟩ := hg sz p e ha hc hk s m args below hf happ hP hK
  exact ⟨n, o, h1, h2, h3, ⟨⟨⟨r, h', q1, hQ r h' q2, q3⟩, q4⟩, q5⟩⟩
