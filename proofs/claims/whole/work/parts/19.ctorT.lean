/-! printed: the constructors -/
def nm_nr : List (Option (Option Nat)) → Bool
  | [] => true
  | some (some _) :: _ => false
  | some none :: S => nm_nr S
  | none :: S => nm_nr S
theorem nm_nr_ok : ∀ {fs : List (Option (Option Nat))}, nm_nr fs = true → ∀ (i r : Nat), fs[i]? = some (some (some r)) → False
  | [], _, i, r, h => by simp at h
  | some (some c) :: S, hb, i, r, h => by simp [nm_nr] at hb
  | some none :: S, hb, i, r, h => by
    cases i with
    | zero => simp at h
    | succ i => exact nm_nr_ok (fs := S) hb i r (by simpa using h)
  | none :: S, hb, i, r, h => by
    cases i with
    | zero => simp at h
    | succ i => exact nm_nr_ok (fs := S) hb i r (by simpa using h)
theorem am_GK {x cy : Cond} (h5 : cy ∈ am_Gw) : GoodIn (x :: am_Gw) (cy :: am_Gw) := by
  intro w hw
  have hm : w ∈ am_Gw := by
    rcases List.mem_cons.mp hw with rfl | hw
    · exact h5
    · exact hw
  exact ⟨List.mem_cons_of_mem _ hm, am_Ggood hm⟩
theorem dv_Wi (E : AE) (j : Nat) (hj : j < 1) : defaultValue (t_Wi j) = vp_V (nm_f E (fun _ => 0) 0 [some none]) j := by
  rcases (show j = 0 by omega) with rfl <;> rfl
abbrev k_Wi : AK := (⟨"PointDesk$WideProduct", "<init>", "()V"⟩, prog_9_method_1_code, 1, 1, 20, 1, 5)
theorem dv_Po (E : AE) (j : Nat) (hj : j < 4) : defaultValue (t_Po j) = vp_V (nm_f E (fun _ => 0) 0 [some none, some none, none, none]) j := by
  rcases (show j = 0 ∨ j = 1 ∨ j = 2 ∨ j = 3 by omega) with rfl | rfl | rfl | rfl <;> rfl
abbrev k_Po : AK := (⟨"PointDesk$Points", "<init>", "()V"⟩, prog_6_method_1_code, 1, 1, 20, 2, 122)
theorem dv_Hu (E : AE) (j : Nat) (hj : j < 5) : defaultValue (t_Hu j) = vp_V (nm_f E (fun _ => 0) 0 [some none, some none, some none, none, none]) j := by
  rcases (show j = 0 ∨ j = 1 ∨ j = 2 ∨ j = 3 ∨ j = 4 by omega) with rfl | rfl | rfl | rfl | rfl <;> rfl
abbrev k_Hu : AK := (⟨"PointDesk$Hull", "<init>", "(LPointDesk$Points;)V"⟩, prog_3_method_1_code, 2, 1, 20, 2, 120)
theorem dv_Hs (E : AE) (j : Nat) (hj : j < 4) : defaultValue (t_Hs j) = vp_V (nm_f E (fun _ => 0) 0 [some none, some none, some none, some none]) j := by
  rcases (show j = 0 ∨ j = 1 ∨ j = 2 ∨ j = 3 by omega) with rfl | rfl | rfl | rfl <;> rfl
abbrev k_Hs : AK := (⟨"PointDesk$HullSides", "<init>", "(LPointDesk$Points;LPointDesk$Hull;)V"⟩, prog_4_method_1_code, 3, 2, 40, 4, 12)
theorem dv_La (E : AE) (j : Nat) (hj : j < 5) : defaultValue (t_La j) = vp_V (nm_f E (fun _ => 0) 0 [some none, some none, some none, none, none]) j := by
  rcases (show j = 0 ∨ j = 1 ∨ j = 2 ∨ j = 3 ∨ j = 4 by omega) with rfl | rfl | rfl | rfl | rfl <;> rfl
abbrev k_La : AK := (⟨"PointDesk$Layers", "<init>", "(LPointDesk$Points;)V"⟩, prog_5_method_1_code, 2, 2, 41, 4, 185)
theorem dv_Ro (E : AE) (j : Nat) (hj : j < 4) : defaultValue (t_Ro j) = vp_V (nm_f E (fun _ => 0) 0 [some none, some none, none, none]) j := by
  rcases (show j = 0 ∨ j = 1 ∨ j = 2 ∨ j = 3 by omega) with rfl | rfl | rfl | rfl <;> rfl
abbrev k_Ro : AK := (⟨"PointDesk$Route", "<init>", "(LPointDesk$Points;)V"⟩, prog_7_method_1_code, 2, 1, 20, 1, 40)
theorem dv_Cr (E : AE) (j : Nat) (hj : j < 6) : defaultValue (t_Cr j) = vp_V (nm_f E (fun _ => 0) 0 [some none, some none, some none, none, none, none]) j := by
  rcases (show j = 0 ∨ j = 1 ∨ j = 2 ∨ j = 3 ∨ j = 4 ∨ j = 5 by omega) with rfl | rfl | rfl | rfl | rfl | rfl <;> rfl
abbrev k_Cr : AK := (⟨"PointDesk$Crossings", "<init>", "(LPointDesk$Points;LPointDesk$Route;)V"⟩, prog_2_method_1_code, 3, 1, 20, 1, 780)
theorem dv_Tr (E : AE) (j : Nat) (hj : j < 8) : defaultValue (t_Tr j) = vp_V (nm_f E (fun _ => 0) 0 [some none, some none, some none, none, none, some none, none, none]) j := by
  rcases (show j = 0 ∨ j = 1 ∨ j = 2 ∨ j = 3 ∨ j = 4 ∨ j = 5 ∨ j = 6 ∨ j = 7 by omega) with rfl | rfl | rfl | rfl | rfl | rfl | rfl | rfl <;> rfl
abbrev k_Tr : AK := (⟨"PointDesk$Triangles", "<init>", "(LPointDesk$Points;LPointDesk$Route;)V"⟩, prog_8_method_1_code, 3, 1, 20, 2, 80)
theorem dv_De (E : AE) (j : Nat) (hj : j < 7) : defaultValue (t_De j) = vp_V (nm_f E (fun _ => 0) 0 [some none, some none, some none, some none, some none, some none, some none]) j := by
  rcases (show j = 0 ∨ j = 1 ∨ j = 2 ∨ j = 3 ∨ j = 4 ∨ j = 5 ∨ j = 6 by omega) with rfl | rfl | rfl | rfl | rfl | rfl | rfl <;> rfl
abbrev k_De : AK := (⟨"PointDesk", "<init>", "()V"⟩, prog_1_method_1_code, 1, 3, 62, 23, 1375)
theorem dv_Mo (E : AE) (j : Nat) (hj : j < 13) : defaultValue (t_Mo j) = vp_V (nm_f E (fun _ => 0) 0 [none, some none, some none, none, some none, none, some none, some none, none, some none, some none, some none, some none]) j := by
  rcases (show j = 0 ∨ j = 1 ∨ j = 2 ∨ j = 3 ∨ j = 4 ∨ j = 5 ∨ j = 6 ∨ j = 7 ∨ j = 8 ∨ j = 9 ∨ j = 10 ∨ j = 11 ∨ j = 12 by omega) with rfl | rfl | rfl | rfl | rfl | rfl | rfl | rfl | rfl | rfl | rfl | rfl | rfl <;> rfl
abbrev k_Mo : AK := (⟨"PointDeskModel", "<init>", "()V"⟩, prog_11_method_1_code, 1, 1, 20, 9, 398)
abbrev am_ks : List AK := [k_Wi, k_Po, k_Hu, k_Hs, k_La, k_Ro, k_Cr, k_Tr, k_De, k_Mo]
abbrev am_ki (k : Nat) : AK := am_ks.getD k k_Wi
abbrev kb_Wi (n0 z0 : Nat) : NT := [(0, nm_ald 0 1), (1, nm_obj), (4, nm_ald 0 1), (5, nm_ic 5 1), (6, nm_newa 0 n0 z0 1 5 1), (8, nm_putr 7 0), (11, nm_ret n0 z0 1 5)]
set_option maxRecDepth 100000 in
set_option maxHeartbeats 4000000 in
theorem KT_Wi (n0 z0 : Nat) : nm_T am_cl am_Gw am_ki 0 n0 z0 (kb_Wi n0 z0) := by
  intro E0 Y0 A p l e s m args below meth c Rt h0 hz X hr hnm
  refine List.forall_mem_cons.mpr ⟨nm_aload_n_ok (pc := 0) (k := 0) X (by decide +kernel), ?_⟩
  refine List.forall_mem_cons.mpr ⟨nm_obj_ok (pc := 1) (idx := 3) X (List.mem_cons_of_mem _ (am_Gin 142 (by decide +kernel) (by decide +kernel))) (List.mem_cons_of_mem _ (am_Gin 73 (by decide +kernel) (by decide +kernel))) (List.mem_cons_of_mem _ (am_Gin 74 (by decide +kernel) (by decide +kernel))) (by decide) (by decide) (by decide +kernel), ?_⟩
  refine List.forall_mem_cons.mpr ⟨nm_aload_n_ok (pc := 4) (k := 0) X (by decide +kernel), ?_⟩
  refine List.forall_mem_cons.mpr ⟨nm_iconst_ok (pc := 5) X (by decide +kernel), ?_⟩
  refine List.forall_mem_cons.mpr ⟨nm_newa1_ok (pc := 6) X (List.mem_cons_of_mem _ (am_Gin 147 (by decide +kernel) (by decide +kernel))) (by decide) (by decide) (by decide +kernel), ?_⟩
  refine List.forall_mem_cons.mpr ⟨nm_putr_ok (pc := 8) (C := R_Wi) (T := F_Wi) (N := 1) (idx := 9) (ty := .array .long) X hnm rfl (by decide) (fun w h => List.mem_cons_of_mem _ (u_Wi w h)) t_Wi_ok n_Wi rfl rfl (by decide +kernel) (fun _ => rfl) (fun _ => rfl) (List.mem_cons_of_mem _ (am_Gin 143 (by decide +kernel) (by decide +kernel))) (by decide +kernel), ?_⟩
  refine List.forall_mem_cons.mpr ⟨nm_ret_ok (pc := 11) X h0 hz hr (by decide +kernel), ?_⟩
  exact fun _ h => absurd h List.not_mem_nil
abbrev kb_Po (n0 z0 : Nat) : NT := [(0, nm_ald 0 1), (1, nm_obj), (4, nm_ald 0 1), (5, nm_ic 61 2), (7, nm_newa 0 n0 z0 2 122 0), (9, nm_putr 4 0), (12, nm_ald 0 1), (13, nm_ic 61 2), (15, nm_newa 1 n0 z0 2 122 0), (17, nm_putr 4 1), (20, nm_ald 0 1), (21, nm_ic 0 1), (22, nm_put 4 2), (25, nm_ald 0 1), (26, nm_ic 0 1), (27, nm_put 4 3), (30, nm_ret n0 z0 2 122)]
set_option maxRecDepth 100000 in
set_option maxHeartbeats 4000000 in
theorem KT_Po (n0 z0 : Nat) : nm_T am_cl am_Gw am_ki 1 n0 z0 (kb_Po n0 z0) := by
  intro E0 Y0 A p l e s m args below meth c Rt h0 hz X hr hnm
  refine List.forall_mem_cons.mpr ⟨nm_aload_n_ok (pc := 0) (k := 0) X (by decide +kernel), ?_⟩
  refine List.forall_mem_cons.mpr ⟨nm_obj_ok (pc := 1) (idx := 3) X (List.mem_cons_of_mem _ (am_Gin 80 (by decide +kernel) (by decide +kernel))) (List.mem_cons_of_mem _ (am_Gin 73 (by decide +kernel) (by decide +kernel))) (List.mem_cons_of_mem _ (am_Gin 74 (by decide +kernel) (by decide +kernel))) (by decide) (by decide) (by decide +kernel), ?_⟩
  refine List.forall_mem_cons.mpr ⟨nm_aload_n_ok (pc := 4) (k := 0) X (by decide +kernel), ?_⟩
  refine List.forall_mem_cons.mpr ⟨nm_bipush_ok (pc := 5) X (by decide +kernel) (by decide), ?_⟩
  refine List.forall_mem_cons.mpr ⟨nm_newa0_ok (pc := 7) X (List.mem_cons_of_mem _ (am_Gin 103 (by decide +kernel) (by decide +kernel))) (by decide) (by decide) (by decide +kernel), ?_⟩
  refine List.forall_mem_cons.mpr ⟨nm_putr_ok (pc := 9) (C := R_Po) (T := F_Po) (N := 4) (idx := 9) (ty := .array .int) X hnm rfl (by decide) (fun w h => List.mem_cons_of_mem _ (u_Po w h)) t_Po_ok n_Po rfl rfl (by decide +kernel) (fun _ => rfl) (fun _ => rfl) (List.mem_cons_of_mem _ (am_Gin 81 (by decide +kernel) (by decide +kernel))) (by decide +kernel), ?_⟩
  refine List.forall_mem_cons.mpr ⟨nm_aload_n_ok (pc := 12) (k := 0) X (by decide +kernel), ?_⟩
  refine List.forall_mem_cons.mpr ⟨nm_bipush_ok (pc := 13) X (by decide +kernel) (by decide), ?_⟩
  refine List.forall_mem_cons.mpr ⟨nm_newa0_ok (pc := 15) X (List.mem_cons_of_mem _ (am_Gin 103 (by decide +kernel) (by decide +kernel))) (by decide) (by decide) (by decide +kernel), ?_⟩
  refine List.forall_mem_cons.mpr ⟨nm_putr_ok (pc := 17) (C := R_Po) (T := F_Po) (N := 4) (idx := 15) (ty := .array .int) X hnm rfl (by decide) (fun w h => List.mem_cons_of_mem _ (u_Po w h)) t_Po_ok n_Po rfl rfl (by decide +kernel) (fun _ => rfl) (fun _ => rfl) (List.mem_cons_of_mem _ (am_Gin 84 (by decide +kernel) (by decide +kernel))) (by decide +kernel), ?_⟩
  refine List.forall_mem_cons.mpr ⟨nm_aload_n_ok (pc := 20) (k := 0) X (by decide +kernel), ?_⟩
  refine List.forall_mem_cons.mpr ⟨nm_iconst_ok (pc := 21) X (by decide +kernel), ?_⟩
  refine List.forall_mem_cons.mpr ⟨nm_put_ok (pc := 22) (C := R_Po) (T := F_Po) (N := 4) (idx := 18) (ty := .int) X rfl (by decide) (fun w h => List.mem_cons_of_mem _ (u_Po w h)) t_Po_ok n_Po rfl (by decide +kernel) (by decide) (List.mem_cons_of_mem _ (am_Gin 87 (by decide +kernel) (by decide +kernel))) (by decide +kernel), ?_⟩
  refine List.forall_mem_cons.mpr ⟨nm_aload_n_ok (pc := 25) (k := 0) X (by decide +kernel), ?_⟩
  refine List.forall_mem_cons.mpr ⟨nm_iconst_ok (pc := 26) X (by decide +kernel), ?_⟩
  refine List.forall_mem_cons.mpr ⟨nm_put_ok (pc := 27) (C := R_Po) (T := F_Po) (N := 4) (idx := 22) (ty := .int) X rfl (by decide) (fun w h => List.mem_cons_of_mem _ (u_Po w h)) t_Po_ok n_Po rfl (by decide +kernel) (by decide) (List.mem_cons_of_mem _ (am_Gin 91 (by decide +kernel) (by decide +kernel))) (by decide +kernel), ?_⟩
  refine List.forall_mem_cons.mpr ⟨nm_ret_ok (pc := 30) X h0 hz hr (by decide +kernel), ?_⟩
  exact fun _ h => absurd h List.not_mem_nil
abbrev kb_Hu (n0 z0 : Nat) : NT := [(0, nm_ald 0 1), (1, nm_obj), (4, nm_ald 0 1), (5, nm_ic 60 2), (7, nm_newa 0 n0 z0 2 120 2), (9, nm_putr 1 1), (12, nm_ald 0 1), (13, nm_ic 60 2), (15, nm_newa 1 n0 z0 2 120 0), (17, nm_putr 1 2), (20, nm_ald 0 1), (21, nm_ic 0 1), (22, nm_put 1 3), (25, nm_ald 0 1), (26, nm_ic 0 1), (27, nm_put 1 4), (30, nm_ald 0 1), (31, nm_ald 1 1), (32, nm_putr 1 0), (35, nm_ret n0 z0 2 120)]
set_option maxRecDepth 100000 in
set_option maxHeartbeats 4000000 in
theorem KT_Hu (n0 z0 : Nat) : nm_T am_cl am_Gw am_ki 2 n0 z0 (kb_Hu n0 z0) := by
  intro E0 Y0 A p l e s m args below meth c Rt h0 hz X hr hnm
  refine List.forall_mem_cons.mpr ⟨nm_aload_n_ok (pc := 0) (k := 0) X (by decide +kernel), ?_⟩
  refine List.forall_mem_cons.mpr ⟨nm_obj_ok (pc := 1) (idx := 3) X (List.mem_cons_of_mem _ (am_Gin 109 (by decide +kernel) (by decide +kernel))) (List.mem_cons_of_mem _ (am_Gin 73 (by decide +kernel) (by decide +kernel))) (List.mem_cons_of_mem _ (am_Gin 74 (by decide +kernel) (by decide +kernel))) (by decide) (by decide) (by decide +kernel), ?_⟩
  refine List.forall_mem_cons.mpr ⟨nm_aload_n_ok (pc := 4) (k := 0) X (by decide +kernel), ?_⟩
  refine List.forall_mem_cons.mpr ⟨nm_bipush_ok (pc := 5) X (by decide +kernel) (by decide), ?_⟩
  refine List.forall_mem_cons.mpr ⟨nm_newa2_ok (pc := 7) X (List.mem_cons_of_mem _ (am_Gin 130 (by decide +kernel) (by decide +kernel))) (by decide) (by decide) (by decide +kernel), ?_⟩
  refine List.forall_mem_cons.mpr ⟨nm_putr_ok (pc := 9) (C := R_Hu) (T := F_Hu) (N := 5) (idx := 9) (ty := .array .boolean) X hnm rfl (by decide) (fun w h => List.mem_cons_of_mem _ (u_Hu w h)) t_Hu_ok n_Hu rfl rfl (by decide +kernel) (fun _ => rfl) (fun _ => rfl) (List.mem_cons_of_mem _ (am_Gin 111 (by decide +kernel) (by decide +kernel))) (by decide +kernel), ?_⟩
  refine List.forall_mem_cons.mpr ⟨nm_aload_n_ok (pc := 12) (k := 0) X (by decide +kernel), ?_⟩
  refine List.forall_mem_cons.mpr ⟨nm_bipush_ok (pc := 13) X (by decide +kernel) (by decide), ?_⟩
  refine List.forall_mem_cons.mpr ⟨nm_newa0_ok (pc := 15) X (List.mem_cons_of_mem _ (am_Gin 103 (by decide +kernel) (by decide +kernel))) (by decide) (by decide) (by decide +kernel), ?_⟩
  refine List.forall_mem_cons.mpr ⟨nm_putr_ok (pc := 17) (C := R_Hu) (T := F_Hu) (N := 5) (idx := 15) (ty := .array .int) X hnm rfl (by decide) (fun w h => List.mem_cons_of_mem _ (u_Hu w h)) t_Hu_ok n_Hu rfl rfl (by decide +kernel) (fun _ => rfl) (fun _ => rfl) (List.mem_cons_of_mem _ (am_Gin 112 (by decide +kernel) (by decide +kernel))) (by decide +kernel), ?_⟩
  refine List.forall_mem_cons.mpr ⟨nm_aload_n_ok (pc := 20) (k := 0) X (by decide +kernel), ?_⟩
  refine List.forall_mem_cons.mpr ⟨nm_iconst_ok (pc := 21) X (by decide +kernel), ?_⟩
  refine List.forall_mem_cons.mpr ⟨nm_put_ok (pc := 22) (C := R_Hu) (T := F_Hu) (N := 5) (idx := 19) (ty := .int) X rfl (by decide) (fun w h => List.mem_cons_of_mem _ (u_Hu w h)) t_Hu_ok n_Hu rfl (by decide +kernel) (by decide) (List.mem_cons_of_mem _ (am_Gin 115 (by decide +kernel) (by decide +kernel))) (by decide +kernel), ?_⟩
  refine List.forall_mem_cons.mpr ⟨nm_aload_n_ok (pc := 25) (k := 0) X (by decide +kernel), ?_⟩
  refine List.forall_mem_cons.mpr ⟨nm_iconst_ok (pc := 26) X (by decide +kernel), ?_⟩
  refine List.forall_mem_cons.mpr ⟨nm_put_ok (pc := 27) (C := R_Hu) (T := F_Hu) (N := 5) (idx := 23) (ty := .int) X rfl (by decide) (fun w h => List.mem_cons_of_mem _ (u_Hu w h)) t_Hu_ok n_Hu rfl (by decide +kernel) (by decide) (List.mem_cons_of_mem _ (am_Gin 118 (by decide +kernel) (by decide +kernel))) (by decide +kernel), ?_⟩
  refine List.forall_mem_cons.mpr ⟨nm_aload_n_ok (pc := 30) (k := 0) X (by decide +kernel), ?_⟩
  refine List.forall_mem_cons.mpr ⟨nm_aload_n_ok (pc := 31) (k := 1) X (by decide +kernel), ?_⟩
  refine List.forall_mem_cons.mpr ⟨nm_putr_ok (pc := 32) (C := R_Hu) (T := F_Hu) (N := 5) (idx := 26) (ty := .object "PointDesk$Points") X hnm rfl (by decide) (fun w h => List.mem_cons_of_mem _ (u_Hu w h)) t_Hu_ok n_Hu rfl rfl (by decide +kernel) (fun _ => rfl) (fun _ => rfl) (List.mem_cons_of_mem _ (am_Gin 110 (by decide +kernel) (by decide +kernel))) (by decide +kernel), ?_⟩
  refine List.forall_mem_cons.mpr ⟨nm_ret_ok (pc := 35) X h0 hz hr (by decide +kernel), ?_⟩
  exact fun _ h => absurd h List.not_mem_nil
abbrev kb_Hs (n0 z0 : Nat) : NT := [(0, nm_ald 0 1), (1, nm_obj), (4, nm_ald 0 1), (5, nm_new 0 n0 z0 4 12 7 [some none]), (8, nm_dup), (9, nm_call n0 z0 4 12 0 0 1 5), (12, nm_putr 2 2), (15, nm_ald 0 1), (16, nm_new 2 n0 z0 4 12 7 [some none]), (19, nm_dup), (20, nm_call n0 z0 4 12 0 0 1 5), (23, nm_putr 2 3), (26, nm_ald 0 1), (27, nm_ald 1 1), (28, nm_putr 2 0), (31, nm_ald 0 1), (32, nm_ald 2 1), (33, nm_putr 2 1), (36, nm_ret n0 z0 4 12)]
set_option maxRecDepth 100000 in
set_option maxHeartbeats 4000000 in
theorem KT_Hs (n0 z0 : Nat) : nm_T am_cl am_Gw am_ki 3 n0 z0 (kb_Hs n0 z0) := by
  intro E0 Y0 A p l e s m args below meth c Rt h0 hz X hr hnm
  refine List.forall_mem_cons.mpr ⟨nm_aload_n_ok (pc := 0) (k := 0) X (by decide +kernel), ?_⟩
  refine List.forall_mem_cons.mpr ⟨nm_obj_ok (pc := 1) (idx := 1) X (List.mem_cons_of_mem _ (am_Gin 136 (by decide +kernel) (by decide +kernel))) (List.mem_cons_of_mem _ (am_Gin 73 (by decide +kernel) (by decide +kernel))) (List.mem_cons_of_mem _ (am_Gin 74 (by decide +kernel) (by decide +kernel))) (by decide) (by decide) (by decide +kernel), ?_⟩
  refine List.forall_mem_cons.mpr ⟨nm_aload_n_ok (pc := 4) (k := 0) X (by decide +kernel), ?_⟩
  refine List.forall_mem_cons.mpr ⟨nm_new_ok (pc := 5) (C := R_Wi) (T := F_Wi) (N := 1) (idx := 7) X rfl (fun w h => List.mem_cons_of_mem _ (u_Wi w h)) t_Wi_ok (List.mem_cons_of_mem _ (am_Gin 137 (by decide +kernel) (by decide +kernel))) (List.mem_cons_of_mem _ (am_Gin 138 (by decide +kernel) (by decide +kernel))) (List.mem_cons_of_mem _ (am_Gin 55 (by decide +kernel) (by decide +kernel))) dv_Wi (nm_nr_ok rfl) rfl (by decide) (by decide) (by decide +kernel), ?_⟩
  refine List.forall_mem_cons.mpr ⟨nm_dup_ok (pc := 8) X (by decide +kernel), ?_⟩
  refine List.forall_mem_cons.mpr ⟨nm_callN_ok (pc := 9) (k := 0) (idx := 9) (host := "PointDesk") X (am_GK (am_Gin 141 (by decide +kernel) (by decide +kernel))) (List.mem_cons_of_mem _ (am_Gin 55 (by decide +kernel) (by decide +kernel))) X.2.2.2.2.2.2.2.2.2 (List.mem_cons_of_mem _ (am_Gin 140 (by decide +kernel) (by decide +kernel))) rfl (by decide +kernel) ⟨by decide, by decide⟩ (by decide) (by decide) (by decide +kernel), ?_⟩
  refine List.forall_mem_cons.mpr ⟨nm_putr_ok (pc := 12) (C := R_Hs) (T := F_Hs) (N := 4) (idx := 10) (ty := .object "PointDesk$WideProduct") X hnm rfl (by decide) (fun w h => List.mem_cons_of_mem _ (u_Hs w h)) t_Hs_ok n_Hs rfl rfl (by decide +kernel) (fun _ => rfl) (fun _ => rfl) (List.mem_cons_of_mem _ (am_Gin 150 (by decide +kernel) (by decide +kernel))) (by decide +kernel), ?_⟩
  refine List.forall_mem_cons.mpr ⟨nm_aload_n_ok (pc := 15) (k := 0) X (by decide +kernel), ?_⟩
  refine List.forall_mem_cons.mpr ⟨nm_new_ok (pc := 16) (C := R_Wi) (T := F_Wi) (N := 1) (idx := 7) X rfl (fun w h => List.mem_cons_of_mem _ (u_Wi w h)) t_Wi_ok (List.mem_cons_of_mem _ (am_Gin 137 (by decide +kernel) (by decide +kernel))) (List.mem_cons_of_mem _ (am_Gin 138 (by decide +kernel) (by decide +kernel))) (List.mem_cons_of_mem _ (am_Gin 55 (by decide +kernel) (by decide +kernel))) dv_Wi (nm_nr_ok rfl) rfl (by decide) (by decide) (by decide +kernel), ?_⟩
  refine List.forall_mem_cons.mpr ⟨nm_dup_ok (pc := 19) X (by decide +kernel), ?_⟩
  refine List.forall_mem_cons.mpr ⟨nm_callN_ok (pc := 20) (k := 0) (idx := 9) (host := "PointDesk") X (am_GK (am_Gin 141 (by decide +kernel) (by decide +kernel))) (List.mem_cons_of_mem _ (am_Gin 55 (by decide +kernel) (by decide +kernel))) X.2.2.2.2.2.2.2.2.2 (List.mem_cons_of_mem _ (am_Gin 140 (by decide +kernel) (by decide +kernel))) rfl (by decide +kernel) ⟨by decide, by decide⟩ (by decide) (by decide) (by decide +kernel), ?_⟩
  refine List.forall_mem_cons.mpr ⟨nm_putr_ok (pc := 23) (C := R_Hs) (T := F_Hs) (N := 4) (idx := 16) (ty := .object "PointDesk$WideProduct") X hnm rfl (by decide) (fun w h => List.mem_cons_of_mem _ (u_Hs w h)) t_Hs_ok n_Hs rfl rfl (by decide +kernel) (fun _ => rfl) (fun _ => rfl) (List.mem_cons_of_mem _ (am_Gin 151 (by decide +kernel) (by decide +kernel))) (by decide +kernel), ?_⟩
  refine List.forall_mem_cons.mpr ⟨nm_aload_n_ok (pc := 26) (k := 0) X (by decide +kernel), ?_⟩
  refine List.forall_mem_cons.mpr ⟨nm_aload_n_ok (pc := 27) (k := 1) X (by decide +kernel), ?_⟩
  refine List.forall_mem_cons.mpr ⟨nm_putr_ok (pc := 28) (C := R_Hs) (T := F_Hs) (N := 4) (idx := 19) (ty := .object "PointDesk$Points") X hnm rfl (by decide) (fun w h => List.mem_cons_of_mem _ (u_Hs w h)) t_Hs_ok n_Hs rfl rfl (by decide +kernel) (fun _ => rfl) (fun _ => rfl) (List.mem_cons_of_mem _ (am_Gin 148 (by decide +kernel) (by decide +kernel))) (by decide +kernel), ?_⟩
  refine List.forall_mem_cons.mpr ⟨nm_aload_n_ok (pc := 31) (k := 0) X (by decide +kernel), ?_⟩
  refine List.forall_mem_cons.mpr ⟨nm_aload_n_ok (pc := 32) (k := 2) X (by decide +kernel), ?_⟩
  refine List.forall_mem_cons.mpr ⟨nm_putr_ok (pc := 33) (C := R_Hs) (T := F_Hs) (N := 4) (idx := 23) (ty := .object "PointDesk$Hull") X hnm rfl (by decide) (fun w h => List.mem_cons_of_mem _ (u_Hs w h)) t_Hs_ok n_Hs rfl rfl (by decide +kernel) (fun _ => rfl) (fun _ => rfl) (List.mem_cons_of_mem _ (am_Gin 149 (by decide +kernel) (by decide +kernel))) (by decide +kernel), ?_⟩
  refine List.forall_mem_cons.mpr ⟨nm_ret_ok (pc := 36) X h0 hz hr (by decide +kernel), ?_⟩
  exact fun _ h => absurd h List.not_mem_nil
abbrev kb_La (n0 z0 : Nat) : NT := [(0, nm_ald 0 1), (1, nm_obj), (4, nm_ald 0 1), (5, nm_ic 60 2), (7, nm_newa 0 n0 z0 4 185 0), (9, nm_putr 3 2), (12, nm_ald 0 1), (13, nm_ic 0 1), (14, nm_put 3 3), (17, nm_ald 0 1), (18, nm_ic 0 1), (19, nm_put 3 4), (22, nm_ald 0 1), (23, nm_ald 1 1), (24, nm_putr 3 0), (27, nm_ald 0 1), (28, nm_new 1 n0 z0 4 185 1 [some none, some none, some none, none, none]), (31, nm_dup), (32, nm_ald 1 1), (33, nm_call n0 z0 4 185 2 1 2 120), (36, nm_putr 3 1), (39, nm_ret n0 z0 4 185)]
set_option maxRecDepth 100000 in
set_option maxHeartbeats 4000000 in
theorem KT_La (n0 z0 : Nat) : nm_T am_cl am_Gw am_ki 4 n0 z0 (kb_La n0 z0) := by
  intro E0 Y0 A p l e s m args below meth c Rt h0 hz X hr hnm
  refine List.forall_mem_cons.mpr ⟨nm_aload_n_ok (pc := 0) (k := 0) X (by decide +kernel), ?_⟩
  refine List.forall_mem_cons.mpr ⟨nm_obj_ok (pc := 1) (idx := 3) X (List.mem_cons_of_mem _ (am_Gin 166 (by decide +kernel) (by decide +kernel))) (List.mem_cons_of_mem _ (am_Gin 73 (by decide +kernel) (by decide +kernel))) (List.mem_cons_of_mem _ (am_Gin 74 (by decide +kernel) (by decide +kernel))) (by decide) (by decide) (by decide +kernel), ?_⟩
  refine List.forall_mem_cons.mpr ⟨nm_aload_n_ok (pc := 4) (k := 0) X (by decide +kernel), ?_⟩
  refine List.forall_mem_cons.mpr ⟨nm_bipush_ok (pc := 5) X (by decide +kernel) (by decide), ?_⟩
  refine List.forall_mem_cons.mpr ⟨nm_newa0_ok (pc := 7) X (List.mem_cons_of_mem _ (am_Gin 103 (by decide +kernel) (by decide +kernel))) (by decide) (by decide) (by decide +kernel), ?_⟩
  refine List.forall_mem_cons.mpr ⟨nm_putr_ok (pc := 9) (C := R_La) (T := F_La) (N := 5) (idx := 9) (ty := .array .int) X hnm rfl (by decide) (fun w h => List.mem_cons_of_mem _ (u_La w h)) t_La_ok n_La rfl rfl (by decide +kernel) (fun _ => rfl) (fun _ => rfl) (List.mem_cons_of_mem _ (am_Gin 171 (by decide +kernel) (by decide +kernel))) (by decide +kernel), ?_⟩
  refine List.forall_mem_cons.mpr ⟨nm_aload_n_ok (pc := 12) (k := 0) X (by decide +kernel), ?_⟩
  refine List.forall_mem_cons.mpr ⟨nm_iconst_ok (pc := 13) X (by decide +kernel), ?_⟩
  refine List.forall_mem_cons.mpr ⟨nm_put_ok (pc := 14) (C := R_La) (T := F_La) (N := 5) (idx := 15) (ty := .int) X rfl (by decide) (fun w h => List.mem_cons_of_mem _ (u_La w h)) t_La_ok n_La rfl (by decide +kernel) (by decide) (List.mem_cons_of_mem _ (am_Gin 173 (by decide +kernel) (by decide +kernel))) (by decide +kernel), ?_⟩
  refine List.forall_mem_cons.mpr ⟨nm_aload_n_ok (pc := 17) (k := 0) X (by decide +kernel), ?_⟩
  refine List.forall_mem_cons.mpr ⟨nm_iconst_ok (pc := 18) X (by decide +kernel), ?_⟩
  refine List.forall_mem_cons.mpr ⟨nm_put_ok (pc := 19) (C := R_La) (T := F_La) (N := 5) (idx := 19) (ty := .int) X rfl (by decide) (fun w h => List.mem_cons_of_mem _ (u_La w h)) t_La_ok n_La rfl (by decide +kernel) (by decide) (List.mem_cons_of_mem _ (am_Gin 175 (by decide +kernel) (by decide +kernel))) (by decide +kernel), ?_⟩
  refine List.forall_mem_cons.mpr ⟨nm_aload_n_ok (pc := 22) (k := 0) X (by decide +kernel), ?_⟩
  refine List.forall_mem_cons.mpr ⟨nm_aload_n_ok (pc := 23) (k := 1) X (by decide +kernel), ?_⟩
  refine List.forall_mem_cons.mpr ⟨nm_putr_ok (pc := 24) (C := R_La) (T := F_La) (N := 5) (idx := 22) (ty := .object "PointDesk$Points") X hnm rfl (by decide) (fun w h => List.mem_cons_of_mem _ (u_La w h)) t_La_ok n_La rfl rfl (by decide +kernel) (fun _ => rfl) (fun _ => rfl) (List.mem_cons_of_mem _ (am_Gin 169 (by decide +kernel) (by decide +kernel))) (by decide +kernel), ?_⟩
  refine List.forall_mem_cons.mpr ⟨nm_aload_n_ok (pc := 27) (k := 0) X (by decide +kernel), ?_⟩
  refine List.forall_mem_cons.mpr ⟨nm_new_ok (pc := 28) (C := R_Hu) (T := F_Hu) (N := 5) (idx := 26) X rfl (fun w h => List.mem_cons_of_mem _ (u_Hu w h)) t_Hu_ok (List.mem_cons_of_mem _ (am_Gin 167 (by decide +kernel) (by decide +kernel))) (List.mem_cons_of_mem _ (am_Gin 105 (by decide +kernel) (by decide +kernel))) (List.mem_cons_of_mem _ (am_Gin 53 (by decide +kernel) (by decide +kernel))) dv_Hu (nm_nr_ok rfl) rfl (by decide) (by decide) (by decide +kernel), ?_⟩
  refine List.forall_mem_cons.mpr ⟨nm_dup_ok (pc := 31) X (by decide +kernel), ?_⟩
  refine List.forall_mem_cons.mpr ⟨nm_aload_n_ok (pc := 32) (k := 1) X (by decide +kernel), ?_⟩
  refine List.forall_mem_cons.mpr ⟨nm_call_ok (pc := 33) (k := 2) (idx := 28) X (am_GK (am_Gin 108 (by decide +kernel) (by decide +kernel))) (List.mem_cons_of_mem _ (am_Gin 53 (by decide +kernel) (by decide +kernel))) (List.mem_cons_of_mem _ (am_Gin 168 (by decide +kernel) (by decide +kernel))) (List.mem_cons_of_mem _ (am_Gin 107 (by decide +kernel) (by decide +kernel))) rfl (by decide +kernel) ⟨by decide, by decide⟩ (by decide) (by decide) (by decide +kernel), ?_⟩
  refine List.forall_mem_cons.mpr ⟨nm_putr_ok (pc := 36) (C := R_La) (T := F_La) (N := 5) (idx := 31) (ty := .object "PointDesk$Hull") X hnm rfl (by decide) (fun w h => List.mem_cons_of_mem _ (u_La w h)) t_La_ok n_La rfl rfl (by decide +kernel) (fun _ => rfl) (fun _ => rfl) (List.mem_cons_of_mem _ (am_Gin 170 (by decide +kernel) (by decide +kernel))) (by decide +kernel), ?_⟩
  refine List.forall_mem_cons.mpr ⟨nm_ret_ok (pc := 39) X h0 hz hr (by decide +kernel), ?_⟩
  exact fun _ h => absurd h List.not_mem_nil
abbrev kb_Ro (n0 z0 : Nat) : NT := [(0, nm_ald 0 1), (1, nm_obj), (4, nm_ald 0 1), (5, nm_ic 40 2), (7, nm_newa 0 n0 z0 1 40 0), (9, nm_putr 5 1), (12, nm_ald 0 1), (13, nm_ic 0 1), (14, nm_put 5 2), (17, nm_ald 0 1), (18, nm_ic 0 1), (19, nm_put 5 3), (22, nm_ald 0 1), (23, nm_ald 1 1), (24, nm_putr 5 0), (27, nm_ret n0 z0 1 40)]
set_option maxRecDepth 100000 in
set_option maxHeartbeats 4000000 in
theorem KT_Ro (n0 z0 : Nat) : nm_T am_cl am_Gw am_ki 5 n0 z0 (kb_Ro n0 z0) := by
  intro E0 Y0 A p l e s m args below meth c Rt h0 hz X hr hnm
  refine List.forall_mem_cons.mpr ⟨nm_aload_n_ok (pc := 0) (k := 0) X (by decide +kernel), ?_⟩
  refine List.forall_mem_cons.mpr ⟨nm_obj_ok (pc := 1) (idx := 3) X (List.mem_cons_of_mem _ (am_Gin 192 (by decide +kernel) (by decide +kernel))) (List.mem_cons_of_mem _ (am_Gin 73 (by decide +kernel) (by decide +kernel))) (List.mem_cons_of_mem _ (am_Gin 74 (by decide +kernel) (by decide +kernel))) (by decide) (by decide) (by decide +kernel), ?_⟩
  refine List.forall_mem_cons.mpr ⟨nm_aload_n_ok (pc := 4) (k := 0) X (by decide +kernel), ?_⟩
  refine List.forall_mem_cons.mpr ⟨nm_bipush_ok (pc := 5) X (by decide +kernel) (by decide), ?_⟩
  refine List.forall_mem_cons.mpr ⟨nm_newa0_ok (pc := 7) X (List.mem_cons_of_mem _ (am_Gin 103 (by decide +kernel) (by decide +kernel))) (by decide) (by decide) (by decide +kernel), ?_⟩
  refine List.forall_mem_cons.mpr ⟨nm_putr_ok (pc := 9) (C := R_Ro) (T := F_Ro) (N := 4) (idx := 9) (ty := .array .int) X hnm rfl (by decide) (fun w h => List.mem_cons_of_mem _ (u_Ro w h)) t_Ro_ok n_Ro rfl rfl (by decide +kernel) (fun _ => rfl) (fun _ => rfl) (List.mem_cons_of_mem _ (am_Gin 194 (by decide +kernel) (by decide +kernel))) (by decide +kernel), ?_⟩
  refine List.forall_mem_cons.mpr ⟨nm_aload_n_ok (pc := 12) (k := 0) X (by decide +kernel), ?_⟩
  refine List.forall_mem_cons.mpr ⟨nm_iconst_ok (pc := 13) X (by decide +kernel), ?_⟩
  refine List.forall_mem_cons.mpr ⟨nm_put_ok (pc := 14) (C := R_Ro) (T := F_Ro) (N := 4) (idx := 15) (ty := .int) X rfl (by decide) (fun w h => List.mem_cons_of_mem _ (u_Ro w h)) t_Ro_ok n_Ro rfl (by decide +kernel) (by decide) (List.mem_cons_of_mem _ (am_Gin 198 (by decide +kernel) (by decide +kernel))) (by decide +kernel), ?_⟩
  refine List.forall_mem_cons.mpr ⟨nm_aload_n_ok (pc := 17) (k := 0) X (by decide +kernel), ?_⟩
  refine List.forall_mem_cons.mpr ⟨nm_iconst_ok (pc := 18) X (by decide +kernel), ?_⟩
  refine List.forall_mem_cons.mpr ⟨nm_put_ok (pc := 19) (C := R_Ro) (T := F_Ro) (N := 4) (idx := 19) (ty := .int) X rfl (by decide) (fun w h => List.mem_cons_of_mem _ (u_Ro w h)) t_Ro_ok n_Ro rfl (by decide +kernel) (by decide) (List.mem_cons_of_mem _ (am_Gin 202 (by decide +kernel) (by decide +kernel))) (by decide +kernel), ?_⟩
  refine List.forall_mem_cons.mpr ⟨nm_aload_n_ok (pc := 22) (k := 0) X (by decide +kernel), ?_⟩
  refine List.forall_mem_cons.mpr ⟨nm_aload_n_ok (pc := 23) (k := 1) X (by decide +kernel), ?_⟩
  refine List.forall_mem_cons.mpr ⟨nm_putr_ok (pc := 24) (C := R_Ro) (T := F_Ro) (N := 4) (idx := 22) (ty := .object "PointDesk$Points") X hnm rfl (by decide) (fun w h => List.mem_cons_of_mem _ (u_Ro w h)) t_Ro_ok n_Ro rfl rfl (by decide +kernel) (fun _ => rfl) (fun _ => rfl) (List.mem_cons_of_mem _ (am_Gin 193 (by decide +kernel) (by decide +kernel))) (by decide +kernel), ?_⟩
  refine List.forall_mem_cons.mpr ⟨nm_ret_ok (pc := 27) X h0 hz hr (by decide +kernel), ?_⟩
  exact fun _ h => absurd h List.not_mem_nil
abbrev kb_Cr (n0 z0 : Nat) : NT := [(0, nm_ald 0 1), (1, nm_obj), (4, nm_ald 0 1), (5, nm_ic 780 3), (8, nm_newa 0 n0 z0 1 780 0), (10, nm_putr 0 2), (13, nm_ald 0 1), (14, nm_ic 0 1), (15, nm_put 0 3), (18, nm_ald 0 1), (19, nm_ic 0 1), (20, nm_put 0 4), (23, nm_ald 0 1), (24, nm_ic 0 1), (25, nm_put 0 5), (28, nm_ald 0 1), (29, nm_ald 1 1), (30, nm_putr 0 0), (33, nm_ald 0 1), (34, nm_ald 2 1), (35, nm_putr 0 1), (38, nm_ret n0 z0 1 780)]
set_option maxRecDepth 100000 in
set_option maxHeartbeats 4000000 in
theorem KT_Cr (n0 z0 : Nat) : nm_T am_cl am_Gw am_ki 6 n0 z0 (kb_Cr n0 z0) := by
  intro E0 Y0 A p l e s m args below meth c Rt h0 hz X hr hnm
  refine List.forall_mem_cons.mpr ⟨nm_aload_n_ok (pc := 0) (k := 0) X (by decide +kernel), ?_⟩
  refine List.forall_mem_cons.mpr ⟨nm_obj_ok (pc := 1) (idx := 3) X (List.mem_cons_of_mem _ (am_Gin 219 (by decide +kernel) (by decide +kernel))) (List.mem_cons_of_mem _ (am_Gin 73 (by decide +kernel) (by decide +kernel))) (List.mem_cons_of_mem _ (am_Gin 74 (by decide +kernel) (by decide +kernel))) (by decide) (by decide) (by decide +kernel), ?_⟩
  refine List.forall_mem_cons.mpr ⟨nm_aload_n_ok (pc := 4) (k := 0) X (by decide +kernel), ?_⟩
  refine List.forall_mem_cons.mpr ⟨nm_sipush_ok (pc := 5) X (by decide +kernel) (by decide), ?_⟩
  refine List.forall_mem_cons.mpr ⟨nm_newa0_ok (pc := 8) X (List.mem_cons_of_mem _ (am_Gin 103 (by decide +kernel) (by decide +kernel))) (by decide) (by decide) (by decide +kernel), ?_⟩
  refine List.forall_mem_cons.mpr ⟨nm_putr_ok (pc := 10) (C := R_Cr) (T := F_Cr) (N := 6) (idx := 9) (ty := .array .int) X hnm rfl (by decide) (fun w h => List.mem_cons_of_mem _ (u_Cr w h)) t_Cr_ok n_Cr rfl rfl (by decide +kernel) (fun _ => rfl) (fun _ => rfl) (List.mem_cons_of_mem _ (am_Gin 222 (by decide +kernel) (by decide +kernel))) (by decide +kernel), ?_⟩
  refine List.forall_mem_cons.mpr ⟨nm_aload_n_ok (pc := 13) (k := 0) X (by decide +kernel), ?_⟩
  refine List.forall_mem_cons.mpr ⟨nm_iconst_ok (pc := 14) X (by decide +kernel), ?_⟩
  refine List.forall_mem_cons.mpr ⟨nm_put_ok (pc := 15) (C := R_Cr) (T := F_Cr) (N := 6) (idx := 15) (ty := .int) X rfl (by decide) (fun w h => List.mem_cons_of_mem _ (u_Cr w h)) t_Cr_ok n_Cr rfl (by decide +kernel) (by decide) (List.mem_cons_of_mem _ (am_Gin 224 (by decide +kernel) (by decide +kernel))) (by decide +kernel), ?_⟩
  refine List.forall_mem_cons.mpr ⟨nm_aload_n_ok (pc := 18) (k := 0) X (by decide +kernel), ?_⟩
  refine List.forall_mem_cons.mpr ⟨nm_iconst_ok (pc := 19) X (by decide +kernel), ?_⟩
  refine List.forall_mem_cons.mpr ⟨nm_put_ok (pc := 20) (C := R_Cr) (T := F_Cr) (N := 6) (idx := 19) (ty := .boolean) X rfl (by decide) (fun w h => List.mem_cons_of_mem _ (u_Cr w h)) t_Cr_ok n_Cr rfl (by decide +kernel) (by decide) (List.mem_cons_of_mem _ (am_Gin 226 (by decide +kernel) (by decide +kernel))) (by decide +kernel), ?_⟩
  refine List.forall_mem_cons.mpr ⟨nm_aload_n_ok (pc := 23) (k := 0) X (by decide +kernel), ?_⟩
  refine List.forall_mem_cons.mpr ⟨nm_iconst_ok (pc := 24) X (by decide +kernel), ?_⟩
  refine List.forall_mem_cons.mpr ⟨nm_put_ok (pc := 25) (C := R_Cr) (T := F_Cr) (N := 6) (idx := 23) (ty := .int) X rfl (by decide) (fun w h => List.mem_cons_of_mem _ (u_Cr w h)) t_Cr_ok n_Cr rfl (by decide +kernel) (by decide) (List.mem_cons_of_mem _ (am_Gin 228 (by decide +kernel) (by decide +kernel))) (by decide +kernel), ?_⟩
  refine List.forall_mem_cons.mpr ⟨nm_aload_n_ok (pc := 28) (k := 0) X (by decide +kernel), ?_⟩
  refine List.forall_mem_cons.mpr ⟨nm_aload_n_ok (pc := 29) (k := 1) X (by decide +kernel), ?_⟩
  refine List.forall_mem_cons.mpr ⟨nm_putr_ok (pc := 30) (C := R_Cr) (T := F_Cr) (N := 6) (idx := 26) (ty := .object "PointDesk$Points") X hnm rfl (by decide) (fun w h => List.mem_cons_of_mem _ (u_Cr w h)) t_Cr_ok n_Cr rfl rfl (by decide +kernel) (fun _ => rfl) (fun _ => rfl) (List.mem_cons_of_mem _ (am_Gin 220 (by decide +kernel) (by decide +kernel))) (by decide +kernel), ?_⟩
  refine List.forall_mem_cons.mpr ⟨nm_aload_n_ok (pc := 33) (k := 0) X (by decide +kernel), ?_⟩
  refine List.forall_mem_cons.mpr ⟨nm_aload_n_ok (pc := 34) (k := 2) X (by decide +kernel), ?_⟩
  refine List.forall_mem_cons.mpr ⟨nm_putr_ok (pc := 35) (C := R_Cr) (T := F_Cr) (N := 6) (idx := 30) (ty := .object "PointDesk$Route") X hnm rfl (by decide) (fun w h => List.mem_cons_of_mem _ (u_Cr w h)) t_Cr_ok n_Cr rfl rfl (by decide +kernel) (fun _ => rfl) (fun _ => rfl) (List.mem_cons_of_mem _ (am_Gin 221 (by decide +kernel) (by decide +kernel))) (by decide +kernel), ?_⟩
  refine List.forall_mem_cons.mpr ⟨nm_ret_ok (pc := 38) X h0 hz hr (by decide +kernel), ?_⟩
  exact fun _ h => absurd h List.not_mem_nil
abbrev kb_Tr (n0 z0 : Nat) : NT := [(0, nm_ald 0 1), (1, nm_obj), (4, nm_ald 0 1), (5, nm_ic 40 2), (7, nm_newa 0 n0 z0 2 80 0), (9, nm_putr 6 2), (12, nm_ald 0 1), (13, nm_ic 0 1), (14, nm_put 6 3), (17, nm_ald 0 1), (18, nm_ic 0 1), (19, nm_put 6 4), (22, nm_ald 0 1), (23, nm_ic 40 2), (25, nm_newa 1 n0 z0 2 80 0), (27, nm_putr 6 5), (30, nm_ald 0 1), (31, nm_ic 0 1), (32, nm_put 6 6), (35, nm_ald 0 1), (36, nm_ic 1 1), (37, nm_put 6 7), (40, nm_ald 0 1), (41, nm_ald 1 1), (42, nm_putr 6 0), (45, nm_ald 0 1), (46, nm_ald 2 1), (47, nm_putr 6 1), (50, nm_ret n0 z0 2 80)]
set_option maxRecDepth 100000 in
set_option maxHeartbeats 4000000 in
theorem KT_Tr (n0 z0 : Nat) : nm_T am_cl am_Gw am_ki 7 n0 z0 (kb_Tr n0 z0) := by
  intro E0 Y0 A p l e s m args below meth c Rt h0 hz X hr hnm
  refine List.forall_mem_cons.mpr ⟨nm_aload_n_ok (pc := 0) (k := 0) X (by decide +kernel), ?_⟩
  refine List.forall_mem_cons.mpr ⟨nm_obj_ok (pc := 1) (idx := 3) X (List.mem_cons_of_mem _ (am_Gin 247 (by decide +kernel) (by decide +kernel))) (List.mem_cons_of_mem _ (am_Gin 73 (by decide +kernel) (by decide +kernel))) (List.mem_cons_of_mem _ (am_Gin 74 (by decide +kernel) (by decide +kernel))) (by decide) (by decide) (by decide +kernel), ?_⟩
  refine List.forall_mem_cons.mpr ⟨nm_aload_n_ok (pc := 4) (k := 0) X (by decide +kernel), ?_⟩
  refine List.forall_mem_cons.mpr ⟨nm_bipush_ok (pc := 5) X (by decide +kernel) (by decide), ?_⟩
  refine List.forall_mem_cons.mpr ⟨nm_newa0_ok (pc := 7) X (List.mem_cons_of_mem _ (am_Gin 103 (by decide +kernel) (by decide +kernel))) (by decide) (by decide) (by decide +kernel), ?_⟩
  refine List.forall_mem_cons.mpr ⟨nm_putr_ok (pc := 9) (C := R_Tr) (T := F_Tr) (N := 8) (idx := 9) (ty := .array .int) X hnm rfl (by decide) (fun w h => List.mem_cons_of_mem _ (u_Tr w h)) t_Tr_ok n_Tr rfl rfl (by decide +kernel) (fun _ => rfl) (fun _ => rfl) (List.mem_cons_of_mem _ (am_Gin 250 (by decide +kernel) (by decide +kernel))) (by decide +kernel), ?_⟩
  refine List.forall_mem_cons.mpr ⟨nm_aload_n_ok (pc := 12) (k := 0) X (by decide +kernel), ?_⟩
  refine List.forall_mem_cons.mpr ⟨nm_iconst_ok (pc := 13) X (by decide +kernel), ?_⟩
  refine List.forall_mem_cons.mpr ⟨nm_put_ok (pc := 14) (C := R_Tr) (T := F_Tr) (N := 8) (idx := 15) (ty := .int) X rfl (by decide) (fun w h => List.mem_cons_of_mem _ (u_Tr w h)) t_Tr_ok n_Tr rfl (by decide +kernel) (by decide) (List.mem_cons_of_mem _ (am_Gin 252 (by decide +kernel) (by decide +kernel))) (by decide +kernel), ?_⟩
  refine List.forall_mem_cons.mpr ⟨nm_aload_n_ok (pc := 17) (k := 0) X (by decide +kernel), ?_⟩
  refine List.forall_mem_cons.mpr ⟨nm_iconst_ok (pc := 18) X (by decide +kernel), ?_⟩
  refine List.forall_mem_cons.mpr ⟨nm_put_ok (pc := 19) (C := R_Tr) (T := F_Tr) (N := 8) (idx := 19) (ty := .int) X rfl (by decide) (fun w h => List.mem_cons_of_mem _ (u_Tr w h)) t_Tr_ok n_Tr rfl (by decide +kernel) (by decide) (List.mem_cons_of_mem _ (am_Gin 254 (by decide +kernel) (by decide +kernel))) (by decide +kernel), ?_⟩
  refine List.forall_mem_cons.mpr ⟨nm_aload_n_ok (pc := 22) (k := 0) X (by decide +kernel), ?_⟩
  refine List.forall_mem_cons.mpr ⟨nm_bipush_ok (pc := 23) X (by decide +kernel) (by decide), ?_⟩
  refine List.forall_mem_cons.mpr ⟨nm_newa0_ok (pc := 25) X (List.mem_cons_of_mem _ (am_Gin 103 (by decide +kernel) (by decide +kernel))) (by decide) (by decide) (by decide +kernel), ?_⟩
  refine List.forall_mem_cons.mpr ⟨nm_putr_ok (pc := 27) (C := R_Tr) (T := F_Tr) (N := 8) (idx := 22) (ty := .array .int) X hnm rfl (by decide) (fun w h => List.mem_cons_of_mem _ (u_Tr w h)) t_Tr_ok n_Tr rfl rfl (by decide +kernel) (fun _ => rfl) (fun _ => rfl) (List.mem_cons_of_mem _ (am_Gin 255 (by decide +kernel) (by decide +kernel))) (by decide +kernel), ?_⟩
  refine List.forall_mem_cons.mpr ⟨nm_aload_n_ok (pc := 30) (k := 0) X (by decide +kernel), ?_⟩
  refine List.forall_mem_cons.mpr ⟨nm_iconst_ok (pc := 31) X (by decide +kernel), ?_⟩
  refine List.forall_mem_cons.mpr ⟨nm_put_ok (pc := 32) (C := R_Tr) (T := F_Tr) (N := 8) (idx := 25) (ty := .int) X rfl (by decide) (fun w h => List.mem_cons_of_mem _ (u_Tr w h)) t_Tr_ok n_Tr rfl (by decide +kernel) (by decide) (List.mem_cons_of_mem _ (am_Gin 256 (by decide +kernel) (by decide +kernel))) (by decide +kernel), ?_⟩
  refine List.forall_mem_cons.mpr ⟨nm_aload_n_ok (pc := 35) (k := 0) X (by decide +kernel), ?_⟩
  refine List.forall_mem_cons.mpr ⟨nm_iconst_ok (pc := 36) X (by decide +kernel), ?_⟩
  refine List.forall_mem_cons.mpr ⟨nm_put_ok (pc := 37) (C := R_Tr) (T := F_Tr) (N := 8) (idx := 28) (ty := .int) X rfl (by decide) (fun w h => List.mem_cons_of_mem _ (u_Tr w h)) t_Tr_ok n_Tr rfl (by decide +kernel) (by decide) (List.mem_cons_of_mem _ (am_Gin 257 (by decide +kernel) (by decide +kernel))) (by decide +kernel), ?_⟩
  refine List.forall_mem_cons.mpr ⟨nm_aload_n_ok (pc := 40) (k := 0) X (by decide +kernel), ?_⟩
  refine List.forall_mem_cons.mpr ⟨nm_aload_n_ok (pc := 41) (k := 1) X (by decide +kernel), ?_⟩
  refine List.forall_mem_cons.mpr ⟨nm_putr_ok (pc := 42) (C := R_Tr) (T := F_Tr) (N := 8) (idx := 31) (ty := .object "PointDesk$Points") X hnm rfl (by decide) (fun w h => List.mem_cons_of_mem _ (u_Tr w h)) t_Tr_ok n_Tr rfl rfl (by decide +kernel) (fun _ => rfl) (fun _ => rfl) (List.mem_cons_of_mem _ (am_Gin 248 (by decide +kernel) (by decide +kernel))) (by decide +kernel), ?_⟩
  refine List.forall_mem_cons.mpr ⟨nm_aload_n_ok (pc := 45) (k := 0) X (by decide +kernel), ?_⟩
  refine List.forall_mem_cons.mpr ⟨nm_aload_n_ok (pc := 46) (k := 2) X (by decide +kernel), ?_⟩
  refine List.forall_mem_cons.mpr ⟨nm_putr_ok (pc := 47) (C := R_Tr) (T := F_Tr) (N := 8) (idx := 35) (ty := .object "PointDesk$Route") X hnm rfl (by decide) (fun w h => List.mem_cons_of_mem _ (u_Tr w h)) t_Tr_ok n_Tr rfl rfl (by decide +kernel) (fun _ => rfl) (fun _ => rfl) (List.mem_cons_of_mem _ (am_Gin 249 (by decide +kernel) (by decide +kernel))) (by decide +kernel), ?_⟩
  refine List.forall_mem_cons.mpr ⟨nm_ret_ok (pc := 50) X h0 hz hr (by decide +kernel), ?_⟩
  exact fun _ h => absurd h List.not_mem_nil
abbrev kb_De (n0 z0 : Nat) : NT := [(0, nm_ald 0 1), (1, nm_obj), (4, nm_ald 0 1), (5, nm_new 0 n0 z0 23 1375 4 [some none, some none, none, none]), (8, nm_dup), (9, nm_call n0 z0 23 1375 1 0 2 122), (12, nm_putr 8 0), (15, nm_ald 0 1), (16, nm_new 3 n0 z0 23 1375 1 [some none, some none, some none, none, none]), (19, nm_dup), (20, nm_ald 0 1), (21, nm_get 8 0), (24, nm_call n0 z0 23 1375 2 1 2 120), (27, nm_putr 8 1), (30, nm_ald 0 1), (31, nm_new 6 n0 z0 23 1375 2 [some none, some none, some none, some none]), (34, nm_dup), (35, nm_ald 0 1), (36, nm_get 8 0), (39, nm_ald 0 1), (40, nm_get 8 1), (43, nm_call n0 z0 23 1375 3 2 4 12), (46, nm_putr 8 2), (49, nm_ald 0 1), (50, nm_new 11 n0 z0 23 1375 3 [some none, some none, some none, none, none]), (53, nm_dup), (54, nm_ald 0 1), (55, nm_get 8 0), (58, nm_call n0 z0 23 1375 4 1 4 185), (61, nm_putr 8 3), (64, nm_ald 0 1), (65, nm_new 16 n0 z0 23 1375 5 [some none, some none, none, none]), (68, nm_dup), (69, nm_ald 0 1), (70, nm_get 8 0), (73, nm_call n0 z0 23 1375 5 1 1 40), (76, nm_putr 8 4), (79, nm_ald 0 1), (80, nm_new 18 n0 z0 23 1375 0 [some none, some none, some none, none, none, none]), (83, nm_dup), (84, nm_ald 0 1), (85, nm_get 8 0), (88, nm_ald 0 1), (89, nm_get 8 4), (92, nm_call n0 z0 23 1375 6 2 1 780), (95, nm_putr 8 5), (98, nm_ald 0 1), (99, nm_new 20 n0 z0 23 1375 6 [some none, some none, some none, none, none, some none, none, none]), (102, nm_dup), (103, nm_ald 0 1), (104, nm_get 8 0), (107, nm_ald 0 1), (108, nm_get 8 4), (111, nm_call n0 z0 23 1375 7 2 2 80), (114, nm_putr 8 6), (117, nm_ret n0 z0 23 1375)]
set_option maxRecDepth 100000 in
set_option maxHeartbeats 4000000 in
theorem KT_De (n0 z0 : Nat) : nm_T am_cl am_Gw am_ki 8 n0 z0 (kb_De n0 z0) := by
  intro E0 Y0 A p l e s m args below meth c Rt h0 hz X hr hnm
  refine List.forall_mem_cons.mpr ⟨nm_aload_n_ok (pc := 0) (k := 0) X (by decide +kernel), ?_⟩
  refine List.forall_mem_cons.mpr ⟨nm_obj_ok (pc := 1) (idx := 3) X (List.mem_cons_of_mem _ (am_Gin 72 (by decide +kernel) (by decide +kernel))) (List.mem_cons_of_mem _ (am_Gin 73 (by decide +kernel) (by decide +kernel))) (List.mem_cons_of_mem _ (am_Gin 74 (by decide +kernel) (by decide +kernel))) (by decide) (by decide) (by decide +kernel), ?_⟩
  refine List.forall_mem_cons.mpr ⟨nm_aload_n_ok (pc := 4) (k := 0) X (by decide +kernel), ?_⟩
  refine List.forall_mem_cons.mpr ⟨nm_new_ok (pc := 5) (C := R_Po) (T := F_Po) (N := 4) (idx := 9) X rfl (fun w h => List.mem_cons_of_mem _ (u_Po w h)) t_Po_ok (List.mem_cons_of_mem _ (am_Gin 75 (by decide +kernel) (by decide +kernel))) (List.mem_cons_of_mem _ (am_Gin 76 (by decide +kernel) (by decide +kernel))) (List.mem_cons_of_mem _ (am_Gin 52 (by decide +kernel) (by decide +kernel))) dv_Po (nm_nr_ok rfl) rfl (by decide) (by decide) (by decide +kernel), ?_⟩
  refine List.forall_mem_cons.mpr ⟨nm_dup_ok (pc := 8) X (by decide +kernel), ?_⟩
  refine List.forall_mem_cons.mpr ⟨nm_callN_ok (pc := 9) (k := 1) (idx := 11) (host := "PointDesk") X (am_GK (am_Gin 79 (by decide +kernel) (by decide +kernel))) (List.mem_cons_of_mem _ (am_Gin 52 (by decide +kernel) (by decide +kernel))) X.2.2.2.2.2.2.2.2.1 (List.mem_cons_of_mem _ (am_Gin 78 (by decide +kernel) (by decide +kernel))) rfl (by decide +kernel) ⟨by decide, by decide⟩ (by decide) (by decide) (by decide +kernel), ?_⟩
  refine List.forall_mem_cons.mpr ⟨nm_putr_ok (pc := 12) (C := R_De) (T := F_De) (N := 7) (idx := 12) (ty := .object "PointDesk$Points") X hnm rfl (by decide) (fun w h => List.mem_cons_of_mem _ (u_De w h)) t_De_ok n_De rfl rfl (by decide +kernel) (fun _ => rfl) (fun _ => rfl) (List.mem_cons_of_mem _ (am_Gin 275 (by decide +kernel) (by decide +kernel))) (by decide +kernel), ?_⟩
  refine List.forall_mem_cons.mpr ⟨nm_aload_n_ok (pc := 15) (k := 0) X (by decide +kernel), ?_⟩
  refine List.forall_mem_cons.mpr ⟨nm_new_ok (pc := 16) (C := R_Hu) (T := F_Hu) (N := 5) (idx := 16) X rfl (fun w h => List.mem_cons_of_mem _ (u_Hu w h)) t_Hu_ok (List.mem_cons_of_mem _ (am_Gin 104 (by decide +kernel) (by decide +kernel))) (List.mem_cons_of_mem _ (am_Gin 105 (by decide +kernel) (by decide +kernel))) (List.mem_cons_of_mem _ (am_Gin 53 (by decide +kernel) (by decide +kernel))) dv_Hu (nm_nr_ok rfl) rfl (by decide) (by decide) (by decide +kernel), ?_⟩
  refine List.forall_mem_cons.mpr ⟨nm_dup_ok (pc := 19) X (by decide +kernel), ?_⟩
  refine List.forall_mem_cons.mpr ⟨nm_aload_n_ok (pc := 20) (k := 0) X (by decide +kernel), ?_⟩
  refine List.forall_mem_cons.mpr ⟨nm_get_ok (pc := 21) (C := R_De) (T := F_De) (N := 7) (idx := 12) X rfl (by decide) (fun w h => List.mem_cons_of_mem _ (u_De w h)) (List.mem_cons_of_mem _ (am_Gin 275 (by decide +kernel) (by decide +kernel))) (by decide +kernel), ?_⟩
  refine List.forall_mem_cons.mpr ⟨nm_call_ok (pc := 24) (k := 2) (idx := 18) X (am_GK (am_Gin 108 (by decide +kernel) (by decide +kernel))) (List.mem_cons_of_mem _ (am_Gin 53 (by decide +kernel) (by decide +kernel))) (List.mem_cons_of_mem _ (am_Gin 106 (by decide +kernel) (by decide +kernel))) (List.mem_cons_of_mem _ (am_Gin 107 (by decide +kernel) (by decide +kernel))) rfl (by decide +kernel) ⟨by decide, by decide⟩ (by decide) (by decide) (by decide +kernel), ?_⟩
  refine List.forall_mem_cons.mpr ⟨nm_putr_ok (pc := 27) (C := R_De) (T := F_De) (N := 7) (idx := 21) (ty := .object "PointDesk$Hull") X hnm rfl (by decide) (fun w h => List.mem_cons_of_mem _ (u_De w h)) t_De_ok n_De rfl rfl (by decide +kernel) (fun _ => rfl) (fun _ => rfl) (List.mem_cons_of_mem _ (am_Gin 276 (by decide +kernel) (by decide +kernel))) (by decide +kernel), ?_⟩
  refine List.forall_mem_cons.mpr ⟨nm_aload_n_ok (pc := 30) (k := 0) X (by decide +kernel), ?_⟩
  refine List.forall_mem_cons.mpr ⟨nm_new_ok (pc := 31) (C := R_Hs) (T := F_Hs) (N := 4) (idx := 25) X rfl (fun w h => List.mem_cons_of_mem _ (u_Hs w h)) t_Hs_ok (List.mem_cons_of_mem _ (am_Gin 131 (by decide +kernel) (by decide +kernel))) (List.mem_cons_of_mem _ (am_Gin 132 (by decide +kernel) (by decide +kernel))) (List.mem_cons_of_mem _ (am_Gin 54 (by decide +kernel) (by decide +kernel))) dv_Hs (nm_nr_ok rfl) rfl (by decide) (by decide) (by decide +kernel), ?_⟩
  refine List.forall_mem_cons.mpr ⟨nm_dup_ok (pc := 34) X (by decide +kernel), ?_⟩
  refine List.forall_mem_cons.mpr ⟨nm_aload_n_ok (pc := 35) (k := 0) X (by decide +kernel), ?_⟩
  refine List.forall_mem_cons.mpr ⟨nm_get_ok (pc := 36) (C := R_De) (T := F_De) (N := 7) (idx := 12) X rfl (by decide) (fun w h => List.mem_cons_of_mem _ (u_De w h)) (List.mem_cons_of_mem _ (am_Gin 275 (by decide +kernel) (by decide +kernel))) (by decide +kernel), ?_⟩
  refine List.forall_mem_cons.mpr ⟨nm_aload_n_ok (pc := 39) (k := 0) X (by decide +kernel), ?_⟩
  refine List.forall_mem_cons.mpr ⟨nm_get_ok (pc := 40) (C := R_De) (T := F_De) (N := 7) (idx := 21) X rfl (by decide) (fun w h => List.mem_cons_of_mem _ (u_De w h)) (List.mem_cons_of_mem _ (am_Gin 276 (by decide +kernel) (by decide +kernel))) (by decide +kernel), ?_⟩
  refine List.forall_mem_cons.mpr ⟨nm_call_ok (pc := 43) (k := 3) (idx := 27) X (am_GK (am_Gin 135 (by decide +kernel) (by decide +kernel))) (List.mem_cons_of_mem _ (am_Gin 54 (by decide +kernel) (by decide +kernel))) (List.mem_cons_of_mem _ (am_Gin 133 (by decide +kernel) (by decide +kernel))) (List.mem_cons_of_mem _ (am_Gin 134 (by decide +kernel) (by decide +kernel))) rfl (by decide +kernel) ⟨by decide, by decide⟩ (by decide) (by decide) (by decide +kernel), ?_⟩
  refine List.forall_mem_cons.mpr ⟨nm_putr_ok (pc := 46) (C := R_De) (T := F_De) (N := 7) (idx := 30) (ty := .object "PointDesk$HullSides") X hnm rfl (by decide) (fun w h => List.mem_cons_of_mem _ (u_De w h)) t_De_ok n_De rfl rfl (by decide +kernel) (fun _ => rfl) (fun _ => rfl) (List.mem_cons_of_mem _ (am_Gin 277 (by decide +kernel) (by decide +kernel))) (by decide +kernel), ?_⟩
  refine List.forall_mem_cons.mpr ⟨nm_aload_n_ok (pc := 49) (k := 0) X (by decide +kernel), ?_⟩
  refine List.forall_mem_cons.mpr ⟨nm_new_ok (pc := 50) (C := R_La) (T := F_La) (N := 5) (idx := 34) X rfl (fun w h => List.mem_cons_of_mem _ (u_La w h)) t_La_ok (List.mem_cons_of_mem _ (am_Gin 161 (by decide +kernel) (by decide +kernel))) (List.mem_cons_of_mem _ (am_Gin 162 (by decide +kernel) (by decide +kernel))) (List.mem_cons_of_mem _ (am_Gin 56 (by decide +kernel) (by decide +kernel))) dv_La (nm_nr_ok rfl) rfl (by decide) (by decide) (by decide +kernel), ?_⟩
  refine List.forall_mem_cons.mpr ⟨nm_dup_ok (pc := 53) X (by decide +kernel), ?_⟩
  refine List.forall_mem_cons.mpr ⟨nm_aload_n_ok (pc := 54) (k := 0) X (by decide +kernel), ?_⟩
  refine List.forall_mem_cons.mpr ⟨nm_get_ok (pc := 55) (C := R_De) (T := F_De) (N := 7) (idx := 12) X rfl (by decide) (fun w h => List.mem_cons_of_mem _ (u_De w h)) (List.mem_cons_of_mem _ (am_Gin 275 (by decide +kernel) (by decide +kernel))) (by decide +kernel), ?_⟩
  refine List.forall_mem_cons.mpr ⟨nm_call_ok (pc := 58) (k := 4) (idx := 36) X (am_GK (am_Gin 165 (by decide +kernel) (by decide +kernel))) (List.mem_cons_of_mem _ (am_Gin 56 (by decide +kernel) (by decide +kernel))) (List.mem_cons_of_mem _ (am_Gin 163 (by decide +kernel) (by decide +kernel))) (List.mem_cons_of_mem _ (am_Gin 164 (by decide +kernel) (by decide +kernel))) rfl (by decide +kernel) ⟨by decide, by decide⟩ (by decide) (by decide) (by decide +kernel), ?_⟩
  refine List.forall_mem_cons.mpr ⟨nm_putr_ok (pc := 61) (C := R_De) (T := F_De) (N := 7) (idx := 37) (ty := .object "PointDesk$Layers") X hnm rfl (by decide) (fun w h => List.mem_cons_of_mem _ (u_De w h)) t_De_ok n_De rfl rfl (by decide +kernel) (fun _ => rfl) (fun _ => rfl) (List.mem_cons_of_mem _ (am_Gin 278 (by decide +kernel) (by decide +kernel))) (by decide +kernel), ?_⟩
  refine List.forall_mem_cons.mpr ⟨nm_aload_n_ok (pc := 64) (k := 0) X (by decide +kernel), ?_⟩
  refine List.forall_mem_cons.mpr ⟨nm_new_ok (pc := 65) (C := R_Ro) (T := F_Ro) (N := 4) (idx := 41) X rfl (fun w h => List.mem_cons_of_mem _ (u_Ro w h)) t_Ro_ok (List.mem_cons_of_mem _ (am_Gin 187 (by decide +kernel) (by decide +kernel))) (List.mem_cons_of_mem _ (am_Gin 188 (by decide +kernel) (by decide +kernel))) (List.mem_cons_of_mem _ (am_Gin 57 (by decide +kernel) (by decide +kernel))) dv_Ro (nm_nr_ok rfl) rfl (by decide) (by decide) (by decide +kernel), ?_⟩
  refine List.forall_mem_cons.mpr ⟨nm_dup_ok (pc := 68) X (by decide +kernel), ?_⟩
  refine List.forall_mem_cons.mpr ⟨nm_aload_n_ok (pc := 69) (k := 0) X (by decide +kernel), ?_⟩
  refine List.forall_mem_cons.mpr ⟨nm_get_ok (pc := 70) (C := R_De) (T := F_De) (N := 7) (idx := 12) X rfl (by decide) (fun w h => List.mem_cons_of_mem _ (u_De w h)) (List.mem_cons_of_mem _ (am_Gin 275 (by decide +kernel) (by decide +kernel))) (by decide +kernel), ?_⟩
  refine List.forall_mem_cons.mpr ⟨nm_call_ok (pc := 73) (k := 5) (idx := 43) X (am_GK (am_Gin 191 (by decide +kernel) (by decide +kernel))) (List.mem_cons_of_mem _ (am_Gin 57 (by decide +kernel) (by decide +kernel))) (List.mem_cons_of_mem _ (am_Gin 189 (by decide +kernel) (by decide +kernel))) (List.mem_cons_of_mem _ (am_Gin 190 (by decide +kernel) (by decide +kernel))) rfl (by decide +kernel) ⟨by decide, by decide⟩ (by decide) (by decide) (by decide +kernel), ?_⟩
  refine List.forall_mem_cons.mpr ⟨nm_putr_ok (pc := 76) (C := R_De) (T := F_De) (N := 7) (idx := 44) (ty := .object "PointDesk$Route") X hnm rfl (by decide) (fun w h => List.mem_cons_of_mem _ (u_De w h)) t_De_ok n_De rfl rfl (by decide +kernel) (fun _ => rfl) (fun _ => rfl) (List.mem_cons_of_mem _ (am_Gin 279 (by decide +kernel) (by decide +kernel))) (by decide +kernel), ?_⟩
  refine List.forall_mem_cons.mpr ⟨nm_aload_n_ok (pc := 79) (k := 0) X (by decide +kernel), ?_⟩
  refine List.forall_mem_cons.mpr ⟨nm_new_ok (pc := 80) (C := R_Cr) (T := F_Cr) (N := 6) (idx := 48) X rfl (fun w h => List.mem_cons_of_mem _ (u_Cr w h)) t_Cr_ok (List.mem_cons_of_mem _ (am_Gin 214 (by decide +kernel) (by decide +kernel))) (List.mem_cons_of_mem _ (am_Gin 215 (by decide +kernel) (by decide +kernel))) (List.mem_cons_of_mem _ (am_Gin 58 (by decide +kernel) (by decide +kernel))) dv_Cr (nm_nr_ok rfl) rfl (by decide) (by decide) (by decide +kernel), ?_⟩
  refine List.forall_mem_cons.mpr ⟨nm_dup_ok (pc := 83) X (by decide +kernel), ?_⟩
  refine List.forall_mem_cons.mpr ⟨nm_aload_n_ok (pc := 84) (k := 0) X (by decide +kernel), ?_⟩
  refine List.forall_mem_cons.mpr ⟨nm_get_ok (pc := 85) (C := R_De) (T := F_De) (N := 7) (idx := 12) X rfl (by decide) (fun w h => List.mem_cons_of_mem _ (u_De w h)) (List.mem_cons_of_mem _ (am_Gin 275 (by decide +kernel) (by decide +kernel))) (by decide +kernel), ?_⟩
  refine List.forall_mem_cons.mpr ⟨nm_aload_n_ok (pc := 88) (k := 0) X (by decide +kernel), ?_⟩
  refine List.forall_mem_cons.mpr ⟨nm_get_ok (pc := 89) (C := R_De) (T := F_De) (N := 7) (idx := 44) X rfl (by decide) (fun w h => List.mem_cons_of_mem _ (u_De w h)) (List.mem_cons_of_mem _ (am_Gin 279 (by decide +kernel) (by decide +kernel))) (by decide +kernel), ?_⟩
  refine List.forall_mem_cons.mpr ⟨nm_call_ok (pc := 92) (k := 6) (idx := 50) X (am_GK (am_Gin 218 (by decide +kernel) (by decide +kernel))) (List.mem_cons_of_mem _ (am_Gin 58 (by decide +kernel) (by decide +kernel))) (List.mem_cons_of_mem _ (am_Gin 216 (by decide +kernel) (by decide +kernel))) (List.mem_cons_of_mem _ (am_Gin 217 (by decide +kernel) (by decide +kernel))) rfl (by decide +kernel) ⟨by decide, by decide⟩ (by decide) (by decide) (by decide +kernel), ?_⟩
  refine List.forall_mem_cons.mpr ⟨nm_putr_ok (pc := 95) (C := R_De) (T := F_De) (N := 7) (idx := 53) (ty := .object "PointDesk$Crossings") X hnm rfl (by decide) (fun w h => List.mem_cons_of_mem _ (u_De w h)) t_De_ok n_De rfl rfl (by decide +kernel) (fun _ => rfl) (fun _ => rfl) (List.mem_cons_of_mem _ (am_Gin 280 (by decide +kernel) (by decide +kernel))) (by decide +kernel), ?_⟩
  refine List.forall_mem_cons.mpr ⟨nm_aload_n_ok (pc := 98) (k := 0) X (by decide +kernel), ?_⟩
  refine List.forall_mem_cons.mpr ⟨nm_new_ok (pc := 99) (C := R_Tr) (T := F_Tr) (N := 8) (idx := 57) X rfl (fun w h => List.mem_cons_of_mem _ (u_Tr w h)) t_Tr_ok (List.mem_cons_of_mem _ (am_Gin 242 (by decide +kernel) (by decide +kernel))) (List.mem_cons_of_mem _ (am_Gin 243 (by decide +kernel) (by decide +kernel))) (List.mem_cons_of_mem _ (am_Gin 59 (by decide +kernel) (by decide +kernel))) dv_Tr (nm_nr_ok rfl) rfl (by decide) (by decide) (by decide +kernel), ?_⟩
  refine List.forall_mem_cons.mpr ⟨nm_dup_ok (pc := 102) X (by decide +kernel), ?_⟩
  refine List.forall_mem_cons.mpr ⟨nm_aload_n_ok (pc := 103) (k := 0) X (by decide +kernel), ?_⟩
  refine List.forall_mem_cons.mpr ⟨nm_get_ok (pc := 104) (C := R_De) (T := F_De) (N := 7) (idx := 12) X rfl (by decide) (fun w h => List.mem_cons_of_mem _ (u_De w h)) (List.mem_cons_of_mem _ (am_Gin 275 (by decide +kernel) (by decide +kernel))) (by decide +kernel), ?_⟩
  refine List.forall_mem_cons.mpr ⟨nm_aload_n_ok (pc := 107) (k := 0) X (by decide +kernel), ?_⟩
  refine List.forall_mem_cons.mpr ⟨nm_get_ok (pc := 108) (C := R_De) (T := F_De) (N := 7) (idx := 44) X rfl (by decide) (fun w h => List.mem_cons_of_mem _ (u_De w h)) (List.mem_cons_of_mem _ (am_Gin 279 (by decide +kernel) (by decide +kernel))) (by decide +kernel), ?_⟩
  refine List.forall_mem_cons.mpr ⟨nm_call_ok (pc := 111) (k := 7) (idx := 59) X (am_GK (am_Gin 246 (by decide +kernel) (by decide +kernel))) (List.mem_cons_of_mem _ (am_Gin 59 (by decide +kernel) (by decide +kernel))) (List.mem_cons_of_mem _ (am_Gin 244 (by decide +kernel) (by decide +kernel))) (List.mem_cons_of_mem _ (am_Gin 245 (by decide +kernel) (by decide +kernel))) rfl (by decide +kernel) ⟨by decide, by decide⟩ (by decide) (by decide) (by decide +kernel), ?_⟩
  refine List.forall_mem_cons.mpr ⟨nm_putr_ok (pc := 114) (C := R_De) (T := F_De) (N := 7) (idx := 60) (ty := .object "PointDesk$Triangles") X hnm rfl (by decide) (fun w h => List.mem_cons_of_mem _ (u_De w h)) t_De_ok n_De rfl rfl (by decide +kernel) (fun _ => rfl) (fun _ => rfl) (List.mem_cons_of_mem _ (am_Gin 281 (by decide +kernel) (by decide +kernel))) (by decide +kernel), ?_⟩
  refine List.forall_mem_cons.mpr ⟨nm_ret_ok (pc := 117) X h0 hz hr (by decide +kernel), ?_⟩
  exact fun _ h => absurd h List.not_mem_nil
abbrev kb_Mo (n0 z0 : Nat) : NT := [(0, nm_ald 0 1), (1, nm_obj), (4, nm_ald 0 1), (5, nm_ic 60 2), (7, nm_newa 0 n0 z0 9 398 0), (9, nm_putr 9 1), (12, nm_ald 0 1), (13, nm_ic 60 2), (15, nm_newa 1 n0 z0 9 398 0), (17, nm_putr 9 2), (20, nm_ald 0 1), (21, nm_ic 40 2), (23, nm_newa 2 n0 z0 9 398 0), (25, nm_putr 9 4), (28, nm_ald 0 1), (29, nm_ic 60 2), (31, nm_newa 3 n0 z0 9 398 2), (33, nm_putr 9 6), (36, nm_ald 0 1), (37, nm_ic 60 2), (39, nm_newa 4 n0 z0 9 398 0), (41, nm_putr 9 7), (44, nm_ald 0 1), (45, nm_ic 60 2), (47, nm_newa 5 n0 z0 9 398 0), (49, nm_putr 9 9), (52, nm_ald 0 1), (53, nm_ic 12 2), (55, nm_newa 6 n0 z0 9 398 1), (57, nm_putr 9 10), (60, nm_ald 0 1), (61, nm_ic 6 2), (63, nm_newa 7 n0 z0 9 398 1), (65, nm_putr 9 11), (68, nm_ald 0 1), (69, nm_ic 40 2), (71, nm_newa 8 n0 z0 9 398 2), (73, nm_putr 9 12), (76, nm_ret n0 z0 9 398)]
set_option maxRecDepth 100000 in
set_option maxHeartbeats 4000000 in
theorem KT_Mo (n0 z0 : Nat) : nm_T am_cl am_Gw am_ki 9 n0 z0 (kb_Mo n0 z0) := by
  intro E0 Y0 A p l e s m args below meth c Rt h0 hz X hr hnm
  refine List.forall_mem_cons.mpr ⟨nm_aload_n_ok (pc := 0) (k := 0) X (by decide +kernel), ?_⟩
  refine List.forall_mem_cons.mpr ⟨nm_obj_ok (pc := 1) (idx := 1) X (List.mem_cons_of_mem _ (am_Gin 813 (by decide +kernel) (by decide +kernel))) (List.mem_cons_of_mem _ (am_Gin 73 (by decide +kernel) (by decide +kernel))) (List.mem_cons_of_mem _ (am_Gin 74 (by decide +kernel) (by decide +kernel))) (by decide) (by decide) (by decide +kernel), ?_⟩
  refine List.forall_mem_cons.mpr ⟨nm_aload_n_ok (pc := 4) (k := 0) X (by decide +kernel), ?_⟩
  refine List.forall_mem_cons.mpr ⟨nm_bipush_ok (pc := 5) X (by decide +kernel) (by decide), ?_⟩
  refine List.forall_mem_cons.mpr ⟨nm_newa0_ok (pc := 7) X (List.mem_cons_of_mem _ (am_Gin 103 (by decide +kernel) (by decide +kernel))) (by decide) (by decide) (by decide +kernel), ?_⟩
  refine List.forall_mem_cons.mpr ⟨nm_putr_ok (pc := 9) (C := R_Mo) (T := F_Mo) (N := 13) (idx := 7) (ty := .array .int) X hnm rfl (by decide) (fun w h => List.mem_cons_of_mem _ (u_Mo w h)) t_Mo_ok n_Mo rfl rfl (by decide +kernel) (fun _ => rfl) (fun _ => rfl) (List.mem_cons_of_mem _ (am_Gin 815 (by decide +kernel) (by decide +kernel))) (by decide +kernel), ?_⟩
  refine List.forall_mem_cons.mpr ⟨nm_aload_n_ok (pc := 12) (k := 0) X (by decide +kernel), ?_⟩
  refine List.forall_mem_cons.mpr ⟨nm_bipush_ok (pc := 13) X (by decide +kernel) (by decide), ?_⟩
  refine List.forall_mem_cons.mpr ⟨nm_newa0_ok (pc := 15) X (List.mem_cons_of_mem _ (am_Gin 103 (by decide +kernel) (by decide +kernel))) (by decide) (by decide) (by decide +kernel), ?_⟩
  refine List.forall_mem_cons.mpr ⟨nm_putr_ok (pc := 17) (C := R_Mo) (T := F_Mo) (N := 13) (idx := 13) (ty := .array .int) X hnm rfl (by decide) (fun w h => List.mem_cons_of_mem _ (u_Mo w h)) t_Mo_ok n_Mo rfl rfl (by decide +kernel) (fun _ => rfl) (fun _ => rfl) (List.mem_cons_of_mem _ (am_Gin 816 (by decide +kernel) (by decide +kernel))) (by decide +kernel), ?_⟩
  refine List.forall_mem_cons.mpr ⟨nm_aload_n_ok (pc := 20) (k := 0) X (by decide +kernel), ?_⟩
  refine List.forall_mem_cons.mpr ⟨nm_bipush_ok (pc := 21) X (by decide +kernel) (by decide), ?_⟩
  refine List.forall_mem_cons.mpr ⟨nm_newa0_ok (pc := 23) X (List.mem_cons_of_mem _ (am_Gin 103 (by decide +kernel) (by decide +kernel))) (by decide) (by decide) (by decide +kernel), ?_⟩
  refine List.forall_mem_cons.mpr ⟨nm_putr_ok (pc := 25) (C := R_Mo) (T := F_Mo) (N := 13) (idx := 16) (ty := .array .int) X hnm rfl (by decide) (fun w h => List.mem_cons_of_mem _ (u_Mo w h)) t_Mo_ok n_Mo rfl rfl (by decide +kernel) (fun _ => rfl) (fun _ => rfl) (List.mem_cons_of_mem _ (am_Gin 818 (by decide +kernel) (by decide +kernel))) (by decide +kernel), ?_⟩
  refine List.forall_mem_cons.mpr ⟨nm_aload_n_ok (pc := 28) (k := 0) X (by decide +kernel), ?_⟩
  refine List.forall_mem_cons.mpr ⟨nm_bipush_ok (pc := 29) X (by decide +kernel) (by decide), ?_⟩
  refine List.forall_mem_cons.mpr ⟨nm_newa2_ok (pc := 31) X (List.mem_cons_of_mem _ (am_Gin 130 (by decide +kernel) (by decide +kernel))) (by decide) (by decide) (by decide +kernel), ?_⟩
  refine List.forall_mem_cons.mpr ⟨nm_putr_ok (pc := 33) (C := R_Mo) (T := F_Mo) (N := 13) (idx := 19) (ty := .array .boolean) X hnm rfl (by decide) (fun w h => List.mem_cons_of_mem _ (u_Mo w h)) t_Mo_ok n_Mo rfl rfl (by decide +kernel) (fun _ => rfl) (fun _ => rfl) (List.mem_cons_of_mem _ (am_Gin 820 (by decide +kernel) (by decide +kernel))) (by decide +kernel), ?_⟩
  refine List.forall_mem_cons.mpr ⟨nm_aload_n_ok (pc := 36) (k := 0) X (by decide +kernel), ?_⟩
  refine List.forall_mem_cons.mpr ⟨nm_bipush_ok (pc := 37) X (by decide +kernel) (by decide), ?_⟩
  refine List.forall_mem_cons.mpr ⟨nm_newa0_ok (pc := 39) X (List.mem_cons_of_mem _ (am_Gin 103 (by decide +kernel) (by decide +kernel))) (by decide) (by decide) (by decide +kernel), ?_⟩
  refine List.forall_mem_cons.mpr ⟨nm_putr_ok (pc := 41) (C := R_Mo) (T := F_Mo) (N := 13) (idx := 23) (ty := .array .int) X hnm rfl (by decide) (fun w h => List.mem_cons_of_mem _ (u_Mo w h)) t_Mo_ok n_Mo rfl rfl (by decide +kernel) (fun _ => rfl) (fun _ => rfl) (List.mem_cons_of_mem _ (am_Gin 821 (by decide +kernel) (by decide +kernel))) (by decide +kernel), ?_⟩
  refine List.forall_mem_cons.mpr ⟨nm_aload_n_ok (pc := 44) (k := 0) X (by decide +kernel), ?_⟩
  refine List.forall_mem_cons.mpr ⟨nm_bipush_ok (pc := 45) X (by decide +kernel) (by decide), ?_⟩
  refine List.forall_mem_cons.mpr ⟨nm_newa0_ok (pc := 47) X (List.mem_cons_of_mem _ (am_Gin 103 (by decide +kernel) (by decide +kernel))) (by decide) (by decide) (by decide +kernel), ?_⟩
  refine List.forall_mem_cons.mpr ⟨nm_putr_ok (pc := 49) (C := R_Mo) (T := F_Mo) (N := 13) (idx := 26) (ty := .array .int) X hnm rfl (by decide) (fun w h => List.mem_cons_of_mem _ (u_Mo w h)) t_Mo_ok n_Mo rfl rfl (by decide +kernel) (fun _ => rfl) (fun _ => rfl) (List.mem_cons_of_mem _ (am_Gin 823 (by decide +kernel) (by decide +kernel))) (by decide +kernel), ?_⟩
  refine List.forall_mem_cons.mpr ⟨nm_aload_n_ok (pc := 52) (k := 0) X (by decide +kernel), ?_⟩
  refine List.forall_mem_cons.mpr ⟨nm_bipush_ok (pc := 53) X (by decide +kernel) (by decide), ?_⟩
  refine List.forall_mem_cons.mpr ⟨nm_newa1_ok (pc := 55) X (List.mem_cons_of_mem _ (am_Gin 147 (by decide +kernel) (by decide +kernel))) (by decide) (by decide) (by decide +kernel), ?_⟩
  refine List.forall_mem_cons.mpr ⟨nm_putr_ok (pc := 57) (C := R_Mo) (T := F_Mo) (N := 13) (idx := 29) (ty := .array .long) X hnm rfl (by decide) (fun w h => List.mem_cons_of_mem _ (u_Mo w h)) t_Mo_ok n_Mo rfl rfl (by decide +kernel) (fun _ => rfl) (fun _ => rfl) (List.mem_cons_of_mem _ (am_Gin 824 (by decide +kernel) (by decide +kernel))) (by decide +kernel), ?_⟩
  refine List.forall_mem_cons.mpr ⟨nm_aload_n_ok (pc := 60) (k := 0) X (by decide +kernel), ?_⟩
  refine List.forall_mem_cons.mpr ⟨nm_bipush_ok (pc := 61) X (by decide +kernel) (by decide), ?_⟩
  refine List.forall_mem_cons.mpr ⟨nm_newa1_ok (pc := 63) X (List.mem_cons_of_mem _ (am_Gin 147 (by decide +kernel) (by decide +kernel))) (by decide) (by decide) (by decide +kernel), ?_⟩
  refine List.forall_mem_cons.mpr ⟨nm_putr_ok (pc := 65) (C := R_Mo) (T := F_Mo) (N := 13) (idx := 33) (ty := .array .long) X hnm rfl (by decide) (fun w h => List.mem_cons_of_mem _ (u_Mo w h)) t_Mo_ok n_Mo rfl rfl (by decide +kernel) (fun _ => rfl) (fun _ => rfl) (List.mem_cons_of_mem _ (am_Gin 825 (by decide +kernel) (by decide +kernel))) (by decide +kernel), ?_⟩
  refine List.forall_mem_cons.mpr ⟨nm_aload_n_ok (pc := 68) (k := 0) X (by decide +kernel), ?_⟩
  refine List.forall_mem_cons.mpr ⟨nm_bipush_ok (pc := 69) X (by decide +kernel) (by decide), ?_⟩
  refine List.forall_mem_cons.mpr ⟨nm_newa2_ok (pc := 71) X (List.mem_cons_of_mem _ (am_Gin 130 (by decide +kernel) (by decide +kernel))) (by decide) (by decide) (by decide +kernel), ?_⟩
  refine List.forall_mem_cons.mpr ⟨nm_putr_ok (pc := 73) (C := R_Mo) (T := F_Mo) (N := 13) (idx := 36) (ty := .array .boolean) X hnm rfl (by decide) (fun w h => List.mem_cons_of_mem _ (u_Mo w h)) t_Mo_ok n_Mo rfl rfl (by decide +kernel) (fun _ => rfl) (fun _ => rfl) (List.mem_cons_of_mem _ (am_Gin 826 (by decide +kernel) (by decide +kernel))) (by decide +kernel), ?_⟩
  refine List.forall_mem_cons.mpr ⟨nm_ret_ok (pc := 76) X h0 hz hr (by decide +kernel), ?_⟩
  exact fun _ h => absurd h List.not_mem_nil
