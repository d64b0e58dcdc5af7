/-! printed: the law's beginning -/
theorem lp_K {s : State} {a : Array Value} (hts : ∀ w ∈ lw_tbl, w.before a s = true) (b : Nat) : ∃ E0 : AE, E0.2.2 = (fun _ => b) ∧ va_K E0.1 am_cl (am_tys E0) s := by
  have hg : ∀ w ∈ am_Gw, w.before a s = true := fun w hw => hts w (List.mem_filter.mp hw).1
  have hk : ∀ i : Nat, ∃ z : ClassId × (Nat → Nat), ∀ q, am_cl[i]? = some q → u_Kn s q.1 q.2.1 q.2.2 z.1 z.2 := by
    intro i
    match i with
    | 0 =>
      obtain ⟨cC, iS, h⟩ := u_known hg u_Cr (hg (Cond.instantiable "PointDesk$Crossings" 6) (am_Gin 215 (by decide +kernel) (by decide +kernel)))
      exact ⟨(cC, iS), fun q hq => by cases hq; exact h⟩
    | 1 =>
      obtain ⟨cC, iS, h⟩ := u_known hg u_Hu (hg (Cond.instantiable "PointDesk$Hull" 5) (am_Gin 105 (by decide +kernel) (by decide +kernel)))
      exact ⟨(cC, iS), fun q hq => by cases hq; exact h⟩
    | 2 =>
      obtain ⟨cC, iS, h⟩ := u_known hg u_Hs (hg (Cond.instantiable "PointDesk$HullSides" 4) (am_Gin 132 (by decide +kernel) (by decide +kernel)))
      exact ⟨(cC, iS), fun q hq => by cases hq; exact h⟩
    | 3 =>
      obtain ⟨cC, iS, h⟩ := u_known hg u_La (hg (Cond.instantiable "PointDesk$Layers" 5) (am_Gin 162 (by decide +kernel) (by decide +kernel)))
      exact ⟨(cC, iS), fun q hq => by cases hq; exact h⟩
    | 4 =>
      obtain ⟨cC, iS, h⟩ := u_known hg u_Po (hg (Cond.instantiable "PointDesk$Points" 4) (am_Gin 76 (by decide +kernel) (by decide +kernel)))
      exact ⟨(cC, iS), fun q hq => by cases hq; exact h⟩
    | 5 =>
      obtain ⟨cC, iS, h⟩ := u_known hg u_Ro (hg (Cond.instantiable "PointDesk$Route" 4) (am_Gin 188 (by decide +kernel) (by decide +kernel)))
      exact ⟨(cC, iS), fun q hq => by cases hq; exact h⟩
    | 6 =>
      obtain ⟨cC, iS, h⟩ := u_known hg u_Tr (hg (Cond.instantiable "PointDesk$Triangles" 8) (am_Gin 243 (by decide +kernel) (by decide +kernel)))
      exact ⟨(cC, iS), fun q hq => by cases hq; exact h⟩
    | 7 =>
      obtain ⟨cC, iS, h⟩ := u_known hg u_Wi (hg (Cond.instantiable "PointDesk$WideProduct" 1) (am_Gin 138 (by decide +kernel) (by decide +kernel)))
      exact ⟨(cC, iS), fun q hq => by cases hq; exact h⟩
    | 8 =>
      obtain ⟨cC, iS, h⟩ := u_known hg u_De (hg (Cond.instantiable "PointDesk" 7) (am_Gin 68 (by decide +kernel) (by decide +kernel)))
      exact ⟨(cC, iS), fun q hq => by cases hq; exact h⟩
    | 9 =>
      obtain ⟨cC, iS, h⟩ := u_known hg u_Mo (hg (Cond.instantiable "PointDeskModel" 13) (am_Gin 809 (by decide +kernel) (by decide +kernel)))
      exact ⟨(cC, iS), fun q hq => by cases hq; exact h⟩
    | i + 10 => exact ⟨(0, fun _ => 0), fun q hq => by simp [am_cl] at hq⟩
  obtain ⟨f, hf⟩ := Classical.axiomOfChoice hk
  have har : ∀ ty : FieldType, (Cond.arrayClass ty).before a s = true → (∀ C, ty ≠ .object C) → ∃ cA, ArrOfT s cA ty ∧ va_RA s cA ty := by
    intro ty h hn
    obtain ⟨cA, kA, comp, h1, h2, h3⟩ := Cond.arrayClass_spec h
    refine ⟨cA, fun n z => ⟨fun k h => (by cases h), kA, h2, comp, h3⟩, ?_⟩
    cases ty with
    | object C => exact absurd rfl (hn C)
    | _ => exact h1
  obtain ⟨cI, i1⟩ := har .int (hg _ (am_Gin 103 (by decide +kernel) (by decide +kernel))) (fun C h => by cases h)
  obtain ⟨cJ, j1⟩ := har .long (hg _ (am_Gin 147 (by decide +kernel) (by decide +kernel))) (fun C h => by cases h)
  obtain ⟨cZ, z1⟩ := har .boolean (hg _ (am_Gin 130 (by decide +kernel) (by decide +kernel))) (fun C h => by cases h)
  refine ⟨((fun i => (f i).1, fun i => (f i).2), (cI, cJ, cZ), fun _ => b), rfl, fun i q hq => hf i q hq, fun k q hk => ?_⟩
  match k, hk with
  | 0, hk => cases hk; exact i1
  | 1, hk => cases hk; exact j1
  | 2, hk => cases hk; exact z1
  | k + 3, hk => simp [am_tys] at hk
abbrev lp_t : NT := [(0, nm_new 0 0 0 35 1794 8 [some none, some none, some none, some none, some none, some none, some none]), (3, nm_dup), (4, nm_call 0 0 35 1794 8 0 23 1375), (7, nm_ast 1 1), (8, nm_new 24 0 0 35 1794 9 [none, some none, some none, none, some none, none, some none, some none, none, some none, some none, some none, some none]), (11, nm_dup), (12, nm_call 0 0 35 1794 9 0 9 398), (15, nm_ast 2 1), (16, nm_ic 1 1), (17, nm_newa 34 0 0 35 1794 1), (19, nm_ast 3 1)]
set_option maxRecDepth 100000 in
set_option maxHeartbeats 4000000 in
theorem lp_T {E0 : AE} {l : Launch} {p : Program} {e : Env} {s : State} {m : MethodId} {args : Array Value} {below : List Frame} {meth : Method} {c : Code} {Q : State → Prop} {Rt : NR} (X : nm_C am_cl E0 (lj_A s) p s m args meth c 8 code "PointDeskLaw" (lj_X :: am_Gw)) : ∀ q ∈ lp_t, nm_sd (nm_G am_cl E0 l am_Gw am_ki) (nm_J am_cl E0 0 0 (lj_A s) p l e room_1 s m args below meth c 8 Q) Rt q.2 q.1 := by
  refine List.forall_mem_cons.mpr ⟨nm_new_ok (pc := 0) (C := R_De) (T := F_De) (N := 7) (idx := 8) X rfl (fun w h => List.mem_cons_of_mem _ (u_De w h)) t_De_ok (List.mem_cons_of_mem _ (am_Gin 67 (by decide +kernel) (by decide +kernel))) (List.mem_cons_of_mem _ (am_Gin 68 (by decide +kernel) (by decide +kernel))) (List.mem_cons_of_mem _ (am_Gin 51 (by decide +kernel) (by decide +kernel))) dv_De (nm_nr_ok rfl) rfl (by decide) (by decide) (by decide +kernel), ?_⟩
  refine List.forall_mem_cons.mpr ⟨nm_dup_ok (pc := 3) X (by decide +kernel), ?_⟩
  refine List.forall_mem_cons.mpr ⟨nm_call_ok (pc := 4) (k := 8) (idx := 41) X (am_GK (am_Gin 71 (by decide +kernel) (by decide +kernel))) (List.mem_cons_of_mem _ (am_Gin 51 (by decide +kernel) (by decide +kernel))) (List.mem_cons_of_mem _ (am_Gin 69 (by decide +kernel) (by decide +kernel))) (List.mem_cons_of_mem _ (am_Gin 70 (by decide +kernel) (by decide +kernel))) rfl (by decide +kernel) ⟨by decide, by decide⟩ (by decide) (by decide) (by decide +kernel), ?_⟩
  refine List.forall_mem_cons.mpr ⟨nm_astore_n_ok (pc := 7) (k := 1) X (by decide) (by decide +kernel), ?_⟩
  refine List.forall_mem_cons.mpr ⟨nm_new_ok (pc := 8) (C := R_Mo) (T := F_Mo) (N := 13) (idx := 42) X rfl (fun w h => List.mem_cons_of_mem _ (u_Mo w h)) t_Mo_ok (List.mem_cons_of_mem _ (am_Gin 808 (by decide +kernel) (by decide +kernel))) (List.mem_cons_of_mem _ (am_Gin 809 (by decide +kernel) (by decide +kernel))) (List.mem_cons_of_mem _ (am_Gin 60 (by decide +kernel) (by decide +kernel))) dv_Mo (nm_nr_ok rfl) rfl (by decide) (by decide) (by decide +kernel), ?_⟩
  refine List.forall_mem_cons.mpr ⟨nm_dup_ok (pc := 11) X (by decide +kernel), ?_⟩
  refine List.forall_mem_cons.mpr ⟨nm_call_ok (pc := 12) (k := 9) (idx := 44) X (am_GK (am_Gin 812 (by decide +kernel) (by decide +kernel))) (List.mem_cons_of_mem _ (am_Gin 60 (by decide +kernel) (by decide +kernel))) (List.mem_cons_of_mem _ (am_Gin 810 (by decide +kernel) (by decide +kernel))) (List.mem_cons_of_mem _ (am_Gin 811 (by decide +kernel) (by decide +kernel))) rfl (by decide +kernel) ⟨by decide, by decide⟩ (by decide) (by decide) (by decide +kernel), ?_⟩
  refine List.forall_mem_cons.mpr ⟨nm_astore_n_ok (pc := 15) (k := 2) X (by decide) (by decide +kernel), ?_⟩
  refine List.forall_mem_cons.mpr ⟨nm_iconst_ok (pc := 16) X (by decide +kernel), ?_⟩
  refine List.forall_mem_cons.mpr ⟨nm_newa1_ok (pc := 17) X (List.mem_cons_of_mem _ (am_Gin 147 (by decide +kernel) (by decide +kernel))) (by decide) (by decide) (by decide +kernel), ?_⟩
  refine List.forall_mem_cons.mpr ⟨nm_astore_n_ok (pc := 19) (k := 3) X (by decide) (by decide +kernel), ?_⟩
  exact fun _ h => absurd h List.not_mem_nil
abbrev lp_Y : List NL := am_Y.map nm_up
def lp_h : AH := am_up (fun _ _ => 0) 21 7 1
set_option maxRecDepth 100000 in
set_option maxHeartbeats 4000000 in
theorem lp_run {E0 : AE} {l : Launch} {J : NJ} (hJ : ∀ Y pc L S h, nm_s lp_t (nm_G am_cl E0 l am_Gw am_ki) J (fun _ _ => False) Y pc L S h → J Y pc L S h) (hend : J lp_Y 20 [some (.inr (.inr 1000)), some (.inr (.inr 0)), some (.inr (.inr 24)), some (.inr (.inr 34)), none, none, none, none] [] lp_h) : J [] 0 [some (.inr (.inr 1000)), none, none, none, none, none, none, none] [] (fun _ _ => 0) := by
  refine hJ _ _ _ _ _ ?_
  refine And.intro (fun j => rfl) ?_
  refine hJ _ _ _ _ _ ?_
  refine hJ _ _ _ _ _ ?_
  refine kr_De_0 (fun c j _ => rfl) ?_
  refine hJ _ _ _ _ _ ?_
  refine hJ _ _ _ _ _ ?_
  refine And.intro (fun j => by simp [am_up]) ?_
  refine hJ _ _ _ _ _ ?_
  refine hJ _ _ _ _ _ ?_
  refine kr_Mo_24 (fun c j hc => by simp [am_up]; omega) ?_
  refine hJ _ _ _ _ _ ?_
  refine hJ _ _ _ _ _ ?_
  refine hJ _ _ _ _ _ ?_
  refine And.intro (fun j => by simp [am_up]) ?_
  refine And.intro (by decide) ?_
  refine hJ _ _ _ _ _ ?_
  exact hend
theorem lp_conv {E0 : AE} {l : Launch} {p : Program} {e : Env} {s : State} {m : MethodId} {below : List Frame} {meth : Method} {c : Code} {L : List (Option AV)} {h : AH} (hj : ∀ ad : Nat → Nat, (∀ k, 1000 ≤ k → ad k = E0.2.2 k) → (∀ c, c < 35 → s.heap.size ≤ ad c) → lj_J (nm_ad E0 ad) l p e s m below meth c 0 20 L [] h) : nm_J am_cl E0 0 0 (lj_A s) p l e room_1 s m #[Value.ref (E0.2.2 1000)] below meth c 8 (lw_Z below #[Value.ref (E0.2.2 1000)] s) lp_Y 20 L [] h := by
  intro ad had H locs ls hP hD hS hl
  rw [nm_w_up] at hP hD
  have had2 : ad 1000 = E0.2.2 1000 := had 1000 (.inr (Nat.le_refl _))
  have hc : ∀ c, c < 35 → s.heap.size ≤ ad c := fun c hc => hD.2 c _ (am_w_at (Y := am_Y) (E := nm_ad E0 ad) (h := h) (List.getElem?_eq_getElem (show c < am_Y.length from hc)))
  have h1 := hj ad (fun k hk => had k (.inr hk)) hc H locs ls hP hD hS hl
  have e1 : (nm_ad E0 ad).2.2 1000 = E0.2.2 1000 := had2
  rw [e1] at h1
  exact h1
def lp_w : List Cond := lw_tbl ++ [Cond.isRef (.static "java/lang/Throwable" "UNASSIGNED_STACK" "[Ljava/lang/StackTraceElement;"), Cond.isRef (.static "java/lang/Throwable" "SUPPRESSED_SENTINEL" "Ljava/util/List;")]
set_option maxRecDepth 100000 in
theorem lp_I : Bundle.ownAtoms "PointDesk" 138 tx_I tx_N = [61, 668, 677, 680, 683, 685, 669, 670, 73, 74, 671, 676, 681, 701, 658, 702, 660, 703, 662, 672, 673, 674, 675, 664, 697, 698, 700, 664, 688, 689, 690, 691, 650, 691, 692, 693, 694, 652, 694, 695, 696, 697, 654, 687, 647, 648, 655, 656, 657, 659, 661, 663, 1087, 1088, 667, 666, 665].filterMap (fun i => lp_w[i]?) := by decide +kernel
set_option maxRecDepth 100000 in
theorem lp_A : Bundle.ownAtoms "PointDesk" 102 tx_A tx_N = [61, 668, 677, 680, 683, 685, 669, 670, 73, 74, 671, 676, 681, 701, 658, 702, 660, 703, 662, 672, 673, 674, 675, 664, 697, 698, 700, 664, 724, 725, 726, 691, 650, 691, 692, 693, 694, 652, 694, 695, 696, 697, 654, 723, 714, 715, 716, 679, 717, 718, 719, 720, 1087, 1088, 667, 666, 721].filterMap (fun i => lp_w[i]?) := by decide +kernel
theorem lp_tx {s : State} {a : Array Value} (hts : ∀ w ∈ lw_tbl, w.before a s = true) (hgv : (Jvm.Cond.and given_1 narrow_1).before a s = true) {E : AE} (hE : ∀ c, c < 35 → s.heap.size ≤ E.2.2 c) : tx_0 s E := by
  have hs := flat_of_before _ hgv
  have hw : ∀ w ∈ lp_w, w.before a s = true := by
    intro w hw
    rcases List.mem_append.mp hw with h | h
    · exact hts w h
    · simp only [List.mem_cons, List.not_mem_nil, or_false] at h
      rcases h with rfl | rfl
      · exact hs _ (by decide +kernel)
      · exact hs _ (by decide +kernel)
  have hof : ∀ (L : List Nat), ∀ w ∈ L.filterMap (fun i => lp_w[i]?), w.before a s = true := by
    intro L w h
    obtain ⟨i, -, hi⟩ := List.mem_filterMap.mp h
    exact hw w (List.mem_of_getElem? hi)
  refine ⟨⟨a, ?_, ?_, hs _ (by decide +kernel)⟩, ?_, hE⟩
  · rw [lp_I]; exact hof _
  · rw [lp_A]; exact hof _
  · intro r hr
    simp only [List.mem_cons, List.not_mem_nil, or_false] at hr
    rcases hr with rfl | rfl | rfl | rfl | rfl | rfl
    · obtain ⟨a2, c, cA, kA, q1, -⟩ := Cond.exactly_spec (args := a) (first := s) (o := none) (s := s) (idx := []) (t := .string "PointDesk" 208) (cls := "java/lang/String") (hs _ (by decide +kernel))
      exact ⟨a2, vk_R.of (hts (.stringRef "PointDesk" 208 "no such point") (List.mem_of_getElem? (i := 686) (by decide +kernel))) q1⟩
    · obtain ⟨a2, c, cA, kA, q1, -⟩ := Cond.exactly_spec (args := a) (first := s) (o := none) (s := s) (idx := []) (t := .string "PointDesk" 100) (cls := "java/lang/String") (hs _ (by decide +kernel))
      exact ⟨a2, vk_R.of (hts (.stringRef "PointDesk" 100 "no such number of a point") (List.mem_of_getElem? (i := 722) (by decide +kernel))) q1⟩
    · obtain ⟨a2, c, cA, kA, q1, -⟩ := Cond.exactly_spec (args := a) (first := s) (o := none) (s := s) (idx := []) (t := .string "PointDesk" 136) (cls := "java/lang/String") (hs _ (by decide +kernel))
      exact ⟨a2, vk_R.of (hts (.stringRef "PointDesk" 136 "no such side of the hull") (List.mem_of_getElem? (i := 743) (by decide +kernel))) q1⟩
    · obtain ⟨a2, c, cA, kA, q1, -⟩ := Cond.exactly_spec (args := a) (first := s) (o := none) (s := s) (idx := []) (t := .string "PointDesk" 149) (cls := "java/lang/String") (hs _ (by decide +kernel))
      exact ⟨a2, vk_R.of (hts (.stringRef "PointDesk" 149 "no such number of a side") (List.mem_of_getElem? (i := 747) (by decide +kernel))) q1⟩
    · obtain ⟨a2, c, cA, kA, q1, -⟩ := Cond.exactly_spec (args := a) (first := s) (o := none) (s := s) (idx := []) (t := .string "PointDesk" 210) (cls := "java/lang/String") (hs _ (by decide +kernel))
      exact ⟨a2, vk_R.of (hts (.stringRef "PointDesk" 210 "x or y is too large") (List.mem_of_getElem? (i := 758) (by decide +kernel))) q1⟩
    · obtain ⟨a2, c, cA, kA, q1, -⟩ := Cond.exactly_spec (args := a) (first := s) (o := none) (s := s) (idx := []) (t := .string "PointDesk" 172) (cls := "java/lang/String") (hs _ (by decide +kernel))
      exact ⟨a2, vk_R.of (hts (.stringRef "PointDesk" 172 "no such places of the route") (List.mem_of_getElem? (i := 787) (by decide +kernel))) q1⟩
