/-! printed by wip/tools/gen_tables.py out of the code: classes, layout, methods -/
def R_Cr : String := "PointDesk$Crossings"
def F_Cr : u_T := fun k => match k with
  | 0 => ("PointDesk$Crossings", "points", "LPointDesk$Points;", true)
  | 1 => ("PointDesk$Crossings", "route", "LPointDesk$Route;", true)
  | 2 => ("PointDesk$Crossings", "pairs", "[I", true)
  | 3 => ("PointDesk$Crossings", "size", "I", false)
  | 4 => ("PointDesk$Crossings", "routeIsSimple", "Z", false)
  | _ => ("PointDesk$Crossings", "version", "I", false)
def t_Cr : Nat → FieldType := fun k => match k with
  | 0 => .object "PointDesk$Points"
  | 1 => .object "PointDesk$Route"
  | 2 => .array .int
  | 3 => .int
  | 4 => .boolean
  | _ => .int
theorem n_Cr : ∀ a, a < 6 → ∀ b, b < 6 → a ≠ b → (F_Cr a).2.1 ≠ (F_Cr b).2.1 := by decide +kernel
theorem t_Cr_ok : ∀ k, k < 6 → parseFieldDescriptor (F_Cr k).2.2.1 = some (t_Cr k) := by decide +kernel
def R_Hu : String := "PointDesk$Hull"
def F_Hu : u_T := fun k => match k with
  | 0 => ("PointDesk$Hull", "points", "LPointDesk$Points;", true)
  | 1 => ("PointDesk$Hull", "isLeftOut", "[Z", true)
  | 2 => ("PointDesk$Hull", "corners", "[I", true)
  | 3 => ("PointDesk$Hull", "size", "I", false)
  | _ => ("PointDesk$Hull", "version", "I", false)
def t_Hu : Nat → FieldType := fun k => match k with
  | 0 => .object "PointDesk$Points"
  | 1 => .array .boolean
  | 2 => .array .int
  | 3 => .int
  | _ => .int
theorem n_Hu : ∀ a, a < 5 → ∀ b, b < 5 → a ≠ b → (F_Hu a).2.1 ≠ (F_Hu b).2.1 := by decide +kernel
theorem t_Hu_ok : ∀ k, k < 5 → parseFieldDescriptor (F_Hu k).2.2.1 = some (t_Hu k) := by decide +kernel
def R_Hs : String := "PointDesk$HullSides"
def F_Hs : u_T := fun k => match k with
  | 0 => ("PointDesk$HullSides", "points", "LPointDesk$Points;", true)
  | 1 => ("PointDesk$HullSides", "hull", "LPointDesk$Hull;", true)
  | 2 => ("PointDesk$HullSides", "left", "LPointDesk$WideProduct;", true)
  | _ => ("PointDesk$HullSides", "right", "LPointDesk$WideProduct;", true)
def t_Hs : Nat → FieldType := fun k => match k with
  | 0 => .object "PointDesk$Points"
  | 1 => .object "PointDesk$Hull"
  | 2 => .object "PointDesk$WideProduct"
  | _ => .object "PointDesk$WideProduct"
theorem n_Hs : ∀ a, a < 4 → ∀ b, b < 4 → a ≠ b → (F_Hs a).2.1 ≠ (F_Hs b).2.1 := by decide +kernel
theorem t_Hs_ok : ∀ k, k < 4 → parseFieldDescriptor (F_Hs k).2.2.1 = some (t_Hs k) := by decide +kernel
def R_La : String := "PointDesk$Layers"
def F_La : u_T := fun k => match k with
  | 0 => ("PointDesk$Layers", "points", "LPointDesk$Points;", true)
  | 1 => ("PointDesk$Layers", "shell", "LPointDesk$Hull;", true)
  | 2 => ("PointDesk$Layers", "layerOf", "[I", true)
  | 3 => ("PointDesk$Layers", "size", "I", false)
  | _ => ("PointDesk$Layers", "version", "I", false)
def t_La : Nat → FieldType := fun k => match k with
  | 0 => .object "PointDesk$Points"
  | 1 => .object "PointDesk$Hull"
  | 2 => .array .int
  | 3 => .int
  | _ => .int
theorem n_La : ∀ a, a < 5 → ∀ b, b < 5 → a ≠ b → (F_La a).2.1 ≠ (F_La b).2.1 := by decide +kernel
theorem t_La_ok : ∀ k, k < 5 → parseFieldDescriptor (F_La k).2.2.1 = some (t_La k) := by decide +kernel
def R_Po : String := "PointDesk$Points"
def F_Po : u_T := fun k => match k with
  | 0 => ("PointDesk$Points", "xs", "[I", true)
  | 1 => ("PointDesk$Points", "ys", "[I", true)
  | 2 => ("PointDesk$Points", "size", "I", false)
  | _ => ("PointDesk$Points", "version", "I", false)
def t_Po : Nat → FieldType := fun k => match k with
  | 0 => .array .int
  | 1 => .array .int
  | 2 => .int
  | _ => .int
theorem n_Po : ∀ a, a < 4 → ∀ b, b < 4 → a ≠ b → (F_Po a).2.1 ≠ (F_Po b).2.1 := by decide +kernel
theorem t_Po_ok : ∀ k, k < 4 → parseFieldDescriptor (F_Po k).2.2.1 = some (t_Po k) := by decide +kernel
def R_Ro : String := "PointDesk$Route"
def F_Ro : u_T := fun k => match k with
  | 0 => ("PointDesk$Route", "points", "LPointDesk$Points;", true)
  | 1 => ("PointDesk$Route", "places", "[I", true)
  | 2 => ("PointDesk$Route", "size", "I", false)
  | _ => ("PointDesk$Route", "version", "I", false)
def t_Ro : Nat → FieldType := fun k => match k with
  | 0 => .object "PointDesk$Points"
  | 1 => .array .int
  | 2 => .int
  | _ => .int
theorem n_Ro : ∀ a, a < 4 → ∀ b, b < 4 → a ≠ b → (F_Ro a).2.1 ≠ (F_Ro b).2.1 := by decide +kernel
theorem t_Ro_ok : ∀ k, k < 4 → parseFieldDescriptor (F_Ro k).2.2.1 = some (t_Ro k) := by decide +kernel
def R_Tr : String := "PointDesk$Triangles"
def F_Tr : u_T := fun k => match k with
  | 0 => ("PointDesk$Triangles", "points", "LPointDesk$Points;", true)
  | 1 => ("PointDesk$Triangles", "route", "LPointDesk$Route;", true)
  | 2 => ("PointDesk$Triangles", "cut", "[I", true)
  | 3 => ("PointDesk$Triangles", "size", "I", false)
  | 4 => ("PointDesk$Triangles", "version", "I", false)
  | 5 => ("PointDesk$Triangles", "left", "[I", true)
  | 6 => ("PointDesk$Triangles", "leftSize", "I", false)
  | _ => ("PointDesk$Triangles", "innerSide", "I", false)
def t_Tr : Nat → FieldType := fun k => match k with
  | 0 => .object "PointDesk$Points"
  | 1 => .object "PointDesk$Route"
  | 2 => .array .int
  | 3 => .int
  | 4 => .int
  | 5 => .array .int
  | 6 => .int
  | _ => .int
theorem n_Tr : ∀ a, a < 8 → ∀ b, b < 8 → a ≠ b → (F_Tr a).2.1 ≠ (F_Tr b).2.1 := by decide +kernel
theorem t_Tr_ok : ∀ k, k < 8 → parseFieldDescriptor (F_Tr k).2.2.1 = some (t_Tr k) := by decide +kernel
def R_Wi : String := "PointDesk$WideProduct"
def F_Wi : u_T := fun k => match k with
  | _ => ("PointDesk$WideProduct", "limbs", "[J", true)
def t_Wi : Nat → FieldType := fun k => match k with
  | _ => .array .long
theorem n_Wi : ∀ a, a < 1 → ∀ b, b < 1 → a ≠ b → (F_Wi a).2.1 ≠ (F_Wi b).2.1 := by decide +kernel
theorem t_Wi_ok : ∀ k, k < 1 → parseFieldDescriptor (F_Wi k).2.2.1 = some (t_Wi k) := by decide +kernel
def R_De : String := "PointDesk"
def F_De : u_T := fun k => match k with
  | 0 => ("PointDesk", "points", "LPointDesk$Points;", true)
  | 1 => ("PointDesk", "hull", "LPointDesk$Hull;", true)
  | 2 => ("PointDesk", "hullSides", "LPointDesk$HullSides;", true)
  | 3 => ("PointDesk", "layers", "LPointDesk$Layers;", true)
  | 4 => ("PointDesk", "route", "LPointDesk$Route;", true)
  | 5 => ("PointDesk", "sideCrossings", "LPointDesk$Crossings;", true)
  | _ => ("PointDesk", "triangles", "LPointDesk$Triangles;", true)
def t_De : Nat → FieldType := fun k => match k with
  | 0 => .object "PointDesk$Points"
  | 1 => .object "PointDesk$Hull"
  | 2 => .object "PointDesk$HullSides"
  | 3 => .object "PointDesk$Layers"
  | 4 => .object "PointDesk$Route"
  | 5 => .object "PointDesk$Crossings"
  | _ => .object "PointDesk$Triangles"
theorem n_De : ∀ a, a < 7 → ∀ b, b < 7 → a ≠ b → (F_De a).2.1 ≠ (F_De b).2.1 := by decide +kernel
theorem t_De_ok : ∀ k, k < 7 → parseFieldDescriptor (F_De k).2.2.1 = some (t_De k) := by decide +kernel
def R_Mo : String := "PointDeskModel"
def F_Mo : u_T := fun k => match k with
  | 0 => ("PointDeskModel", "thrown", "I", false)
  | 1 => ("PointDeskModel", "xs", "[I", true)
  | 2 => ("PointDeskModel", "ys", "[I", true)
  | 3 => ("PointDeskModel", "size", "I", false)
  | 4 => ("PointDeskModel", "route", "[I", true)
  | 5 => ("PointDeskModel", "length", "I", false)
  | 6 => ("PointDeskModel", "marks", "[Z", true)
  | 7 => ("PointDeskModel", "corners", "[I", true)
  | 8 => ("PointDeskModel", "cornerCount", "I", false)
  | 9 => ("PointDeskModel", "layers", "[I", true)
  | 10 => ("PointDeskModel", "parts", "[J", true)
  | 11 => ("PointDeskModel", "works", "[J", true)
  | _ => ("PointDeskModel", "cut", "[Z", true)
def t_Mo : Nat → FieldType := fun k => match k with
  | 0 => .int
  | 1 => .array .int
  | 2 => .array .int
  | 3 => .int
  | 4 => .array .int
  | 5 => .int
  | 6 => .array .boolean
  | 7 => .array .int
  | 8 => .int
  | 9 => .array .int
  | 10 => .array .long
  | 11 => .array .long
  | _ => .array .boolean
theorem n_Mo : ∀ a, a < 13 → ∀ b, b < 13 → a ≠ b → (F_Mo a).2.1 ≠ (F_Mo b).2.1 := by decide +kernel
theorem t_Mo_ok : ∀ k, k < 13 → parseFieldDescriptor (F_Mo k).2.2.1 = some (t_Mo k) := by decide +kernel
abbrev am_cl : List vw_C := [(R_Cr, F_Cr, 6), (R_Hu, F_Hu, 5), (R_Hs, F_Hs, 4), (R_La, F_La, 5), (R_Po, F_Po, 4), (R_Ro, F_Ro, 4), (R_Tr, F_Tr, 8), (R_Wi, F_Wi, 1), (R_De, F_De, 7), (R_Mo, F_Mo, 13)]
abbrev am_Y : List AL := [.inl (8, [some 1, some 4, some 7, some 12, some 17, some 19, some 21]), .inl (4, [some 2, some 3, none, none]), .inr (0, 61), .inr (0, 61), .inl (1, [some 1, some 5, some 6, none, none]), .inr (2, 60), .inr (0, 60), .inl (2, [some 1, some 4, some 8, some 10]), .inl (7, [some 9]), .inr (1, 5), .inl (7, [some 11]), .inr (1, 5), .inl (3, [some 1, some 14, some 13, none, none]), .inr (0, 60), .inl (1, [some 1, some 15, some 16, none, none]), .inr (2, 60), .inr (0, 60), .inl (5, [some 1, some 18, none, none]), .inr (0, 40), .inl (0, [some 1, some 17, some 20, none, none, none]), .inr (0, 780), .inl (6, [some 1, some 17, some 22, none, none, some 23, none, none]), .inr (0, 40), .inr (0, 40), .inl (9, [none, some 25, some 26, none, some 27, none, some 28, some 29, none, some 30, some 31, some 32, some 33]), .inr (0, 60), .inr (0, 60), .inr (0, 40), .inr (2, 60), .inr (0, 60), .inr (0, 60), .inr (1, 12), .inr (1, 6), .inr (2, 40), .inr (1, 1)]
theorem am_Y0 : ∀ (q k n : Nat), am_Y[q]? = some (.inr (k, n)) → n < 2147483648 := by
  have key : ∀ x ∈ am_Y, (match x with | .inr (_, n) => decide (n < 2147483648) | .inl _ => true) = true := by decide
  intro q k n h
  have := key _ (List.mem_of_getElem? h)
  simpa using this
def am_Gw : List Cond := lw_tbl.filter goodWord
theorem am_Gin {w : Cond} (i : Nat) (h : lw_tbl[i]? = some w) (g : goodWord w = true) : w ∈ am_Gw := List.mem_filter.mpr ⟨List.mem_of_getElem? h, g⟩
theorem am_Ggood {w : Cond} (h : w ∈ am_Gw) : (w.onTables && w.keeps) = true ∨ ∃ ty, w = .arrayClass ty := good_of_word (List.mem_filter.mp h).2
theorem am_GV {x : Cond} {own C : String} {idx : Nat} {y : MethodName} {cy : Cond} (h1 : Cond.methodLink own idx y ∈ am_Gw) (h2 : Cond.instanceMethod y ∈ am_Gw) (h3 : Cond.selects C y y ∈ am_Gw) (h4 : Cond.initialized C ∈ am_Gw) (h5 : cy ∈ am_Gw) : GoodIn (x :: am_Gw) (wsV own idx C y (cy :: am_Gw)) := by
  intro w hw
  have hm : w ∈ am_Gw := by
    simp only [wsV, List.cons_append, List.nil_append, List.mem_cons] at hw
    rcases hw with rfl | rfl | rfl | rfl | rfl | hw
    · exact h1
    · exact h2
    · exact h3
    · exact h4
    · exact h5
    · exact hw
  exact ⟨List.mem_cons_of_mem _ hm, am_Ggood hm⟩
theorem am_GS {x : Cond} {own : String} {idx : Nat} {y : MethodName} {cy : Cond} (h1 : Cond.methodLink own idx y ∈ am_Gw) (h2 : Cond.static y ∈ am_Gw) (h4 : Cond.initialized own ∈ am_Gw) (h5 : cy ∈ am_Gw) : GoodIn (x :: am_Gw) (wsS own idx y (cy :: am_Gw)) := by
  intro w hw
  have hm : w ∈ am_Gw := by
    simp only [wsS, List.cons_append, List.nil_append, List.mem_cons] at hw
    rcases hw with rfl | rfl | rfl | rfl | hw
    · exact h1
    · exact h2
    · exact h4
    · exact h5
    · exact hw
  exact ⟨List.mem_cons_of_mem _ hm, am_Ggood hm⟩
theorem u_Cr : ∀ w ∈ u_ws R_Cr F_Cr 6, w ∈ am_Gw := by
  have h : u_ws R_Cr F_Cr 6 = [229, 231, 233, 235, 237, 239].filterMap (fun i => lw_tbl[i]?) := by decide +kernel
  have g : (u_ws R_Cr F_Cr 6).all goodWord = true := by decide +kernel
  intro w hw
  refine List.mem_filter.mpr ⟨?_, List.all_eq_true.mp g w hw⟩
  rw [h] at hw
  obtain ⟨i, -, hi⟩ := List.mem_filterMap.mp hw
  exact List.mem_of_getElem? hi
theorem u_Hu : ∀ w ∈ u_ws R_Hu F_Hu 5, w ∈ am_Gw := by
  have h : u_ws R_Hu F_Hu 5 = [119, 121, 123, 125, 127].filterMap (fun i => lw_tbl[i]?) := by decide +kernel
  have g : (u_ws R_Hu F_Hu 5).all goodWord = true := by decide +kernel
  intro w hw
  refine List.mem_filter.mpr ⟨?_, List.all_eq_true.mp g w hw⟩
  rw [h] at hw
  obtain ⟨i, -, hi⟩ := List.mem_filterMap.mp hw
  exact List.mem_of_getElem? hi
theorem u_Hs : ∀ w ∈ u_ws R_Hs F_Hs 4, w ∈ am_Gw := by
  have h : u_ws R_Hs F_Hs 4 = [152, 154, 156, 158].filterMap (fun i => lw_tbl[i]?) := by decide +kernel
  have g : (u_ws R_Hs F_Hs 4).all goodWord = true := by decide +kernel
  intro w hw
  refine List.mem_filter.mpr ⟨?_, List.all_eq_true.mp g w hw⟩
  rw [h] at hw
  obtain ⟨i, -, hi⟩ := List.mem_filterMap.mp hw
  exact List.mem_of_getElem? hi
theorem u_La : ∀ w ∈ u_ws R_La F_La 5, w ∈ am_Gw := by
  have h : u_ws R_La F_La 5 = [176, 178, 180, 182, 184].filterMap (fun i => lw_tbl[i]?) := by decide +kernel
  have g : (u_ws R_La F_La 5).all goodWord = true := by decide +kernel
  intro w hw
  refine List.mem_filter.mpr ⟨?_, List.all_eq_true.mp g w hw⟩
  rw [h] at hw
  obtain ⟨i, -, hi⟩ := List.mem_filterMap.mp hw
  exact List.mem_of_getElem? hi
theorem u_Po : ∀ w ∈ u_ws R_Po F_Po 4, w ∈ am_Gw := by
  have h : u_ws R_Po F_Po 4 = [94, 96, 98, 100].filterMap (fun i => lw_tbl[i]?) := by decide +kernel
  have g : (u_ws R_Po F_Po 4).all goodWord = true := by decide +kernel
  intro w hw
  refine List.mem_filter.mpr ⟨?_, List.all_eq_true.mp g w hw⟩
  rw [h] at hw
  obtain ⟨i, -, hi⟩ := List.mem_filterMap.mp hw
  exact List.mem_of_getElem? hi
theorem u_Ro : ∀ w ∈ u_ws R_Ro F_Ro 4, w ∈ am_Gw := by
  have h : u_ws R_Ro F_Ro 4 = [205, 207, 209, 211].filterMap (fun i => lw_tbl[i]?) := by decide +kernel
  have g : (u_ws R_Ro F_Ro 4).all goodWord = true := by decide +kernel
  intro w hw
  refine List.mem_filter.mpr ⟨?_, List.all_eq_true.mp g w hw⟩
  rw [h] at hw
  obtain ⟨i, -, hi⟩ := List.mem_filterMap.mp hw
  exact List.mem_of_getElem? hi
theorem u_Tr : ∀ w ∈ u_ws R_Tr F_Tr 8, w ∈ am_Gw := by
  have h : u_ws R_Tr F_Tr 8 = [258, 260, 262, 264, 266, 268, 270, 272].filterMap (fun i => lw_tbl[i]?) := by decide +kernel
  have g : (u_ws R_Tr F_Tr 8).all goodWord = true := by decide +kernel
  intro w hw
  refine List.mem_filter.mpr ⟨?_, List.all_eq_true.mp g w hw⟩
  rw [h] at hw
  obtain ⟨i, -, hi⟩ := List.mem_filterMap.mp hw
  exact List.mem_of_getElem? hi
theorem u_Wi : ∀ w ∈ u_ws R_Wi F_Wi 1, w ∈ am_Gw := by
  have h : u_ws R_Wi F_Wi 1 = [144].filterMap (fun i => lw_tbl[i]?) := by decide +kernel
  have g : (u_ws R_Wi F_Wi 1).all goodWord = true := by decide +kernel
  intro w hw
  refine List.mem_filter.mpr ⟨?_, List.all_eq_true.mp g w hw⟩
  rw [h] at hw
  obtain ⟨i, -, hi⟩ := List.mem_filterMap.mp hw
  exact List.mem_of_getElem? hi
theorem u_De : ∀ w ∈ u_ws R_De F_De 7, w ∈ am_Gw := by
  have h : u_ws R_De F_De 7 = [282, 284, 286, 288, 290, 292, 294].filterMap (fun i => lw_tbl[i]?) := by decide +kernel
  have g : (u_ws R_De F_De 7).all goodWord = true := by decide +kernel
  intro w hw
  refine List.mem_filter.mpr ⟨?_, List.all_eq_true.mp g w hw⟩
  rw [h] at hw
  obtain ⟨i, -, hi⟩ := List.mem_filterMap.mp hw
  exact List.mem_of_getElem? hi
theorem u_Mo : ∀ w ∈ u_ws R_Mo F_Mo 13, w ∈ am_Gw := by
  have h : u_ws R_Mo F_Mo 13 = [827, 829, 831, 833, 835, 837, 839, 841, 843, 845, 847, 849, 851].filterMap (fun i => lw_tbl[i]?) := by decide +kernel
  have g : (u_ws R_Mo F_Mo 13).all goodWord = true := by decide +kernel
  intro w hw
  refine List.mem_filter.mpr ⟨?_, List.all_eq_true.mp g w hw⟩
  rw [h] at hw
  obtain ⟨i, -, hi⟩ := List.mem_filterMap.mp hw
  exact List.mem_of_getElem? hi
abbrev q_De_isInPlane : AM := (⟨"PointDesk", "isInPlane", "(II)Z"⟩, prog_1_method_30_code, 2, some .boolean, 0, 0)
abbrev q_Po_append : AM := (⟨"PointDesk$Points", "append", "(II)V"⟩, prog_6_method_3_code, 3, none, 0, 0)
abbrev q_De_add : AM := (⟨"PointDesk", "add", "(II)I"⟩, prog_1_method_2_code, 3, some .int, 1, 22)
abbrev q_Po_removeAll : AM := (⟨"PointDesk$Points", "removeAll", "()V"⟩, prog_6_method_4_code, 1, none, 0, 0)
abbrev q_Ro_removeAll : AM := (⟨"PointDesk$Route", "removeAll", "()V"⟩, prog_7_method_3_code, 1, none, 0, 0)
abbrev q_De_clear : AM := (⟨"PointDesk", "clear", "()I"⟩, prog_1_method_3_code, 2, some .int, 1, 20)
abbrev q_Hu_takeAllIn : AM := (⟨"PointDesk$Hull", "takeAllIn", "()V"⟩, prog_3_method_3_code, 2, none, 0, 0)
abbrev q_Hu_takesIn : AM := (⟨"PointDesk$Hull", "takesIn", "(I)Z"⟩, prog_3_method_5_code, 2, some .boolean, 0, 0)
abbrev q_Hu_isLower : AM := (⟨"PointDesk$Hull", "isLower", "(II)Z"⟩, prog_3_method_8_code, 5, some .boolean, 0, 0)
abbrev q_Hu_lowest : AM := (⟨"PointDesk$Hull", "lowest", "()I"⟩, prog_3_method_7_code, 3, some .int, 1, 24)
abbrev q_Po_areAtOnePlace : AM := (⟨"PointDesk$Points", "areAtOnePlace", "(II)Z"⟩, prog_6_method_11_code, 3, some .boolean, 0, 0)
abbrev q_Po_crossProduct : AM := (⟨"PointDesk$Points", "crossProduct", "(III)J"⟩, prog_6_method_6_code, 8, some .long, 0, 0)
abbrev q_Po_squaredDistance : AM := (⟨"PointDesk$Points", "squaredDistance", "(II)J"⟩, prog_6_method_10_code, 7, some .long, 0, 0)
abbrev q_Hu_isBetter : AM := (⟨"PointDesk$Hull", "isBetter", "(III)Z"⟩, prog_3_method_10_code, 6, some .boolean, 1, 27)
abbrev q_Hu_cornerBehind : AM := (⟨"PointDesk$Hull", "cornerBehind", "(I)I"⟩, prog_3_method_9_code, 4, some .int, 2, 52)
abbrev q_Hu_wrap : AM := (⟨"PointDesk$Hull", "wrap", "()V"⟩, prog_3_method_6_code, 4, none, 3, 75)
abbrev q_Hu_refresh : AM := (⟨"PointDesk$Hull", "refresh", "()V"⟩, prog_3_method_2_code, 1, none, 4, 98)
abbrev q_Po_dotProduct : AM := (⟨"PointDesk$Points", "dotProduct", "(III)J"⟩, prog_6_method_8_code, 8, some .long, 0, 0)
abbrev q_Po_isOnSegment : AM := (⟨"PointDesk$Points", "isOnSegment", "(III)Z"⟩, prog_6_method_12_code, 4, some .boolean, 1, 27)
abbrev q_Hu_cornerAfter : AM := (⟨"PointDesk$Hull", "cornerAfter", "(I)I"⟩, prog_3_method_11_code, 2, some .int, 0, 0)
abbrev q_Hu_holds : AM := (⟨"PointDesk$Hull", "holds", "(I)I"⟩, prog_3_method_12_code, 6, some .int, 2, 50)
abbrev q_Hu_leaveOut : AM := (⟨"PointDesk$Hull", "leaveOut", "(I)V"⟩, prog_3_method_4_code, 2, none, 0, 0)
abbrev q_La_takeOffBorder : AM := (⟨"PointDesk$Layers", "takeOffBorder", "()I"⟩, prog_5_method_3_code, 3, some .int, 4, 98)
abbrev q_La_refresh : AM := (⟨"PointDesk$Layers", "refresh", "()V"⟩, prog_5_method_2_code, 3, none, 5, 120)
abbrev q_Po_pairsAtOnePlace : AM := (⟨"PointDesk$Points", "pairsAtOnePlace", "()I"⟩, prog_6_method_15_code, 4, some .int, 1, 22)
abbrev q_Po_threesOnOneLine : AM := (⟨"PointDesk$Points", "threesOnOneLine", "()I"⟩, prog_6_method_16_code, 5, some .int, 1, 27)
abbrev q_De_count : AM := (⟨"PointDesk", "count", "(I)I"⟩, prog_1_method_4_code, 2, some .int, 6, 142)
abbrev q_Po_has : AM := (⟨"PointDesk$Points", "has", "(I)Z"⟩, prog_6_method_2_code, 2, some .boolean, 0, 0)
abbrev q_De_requirePoint : AM := (⟨"PointDesk", "requirePoint", "(I)V"⟩, prog_1_method_28_code, 2, none, 1, 21)
abbrev q_De_at : AM := (⟨"PointDesk", "at", "(II)I"⟩, prog_1_method_5_code, 3, some .int, 2, 42)
abbrev q_De_corner : AM := (⟨"PointDesk", "corner", "(I)I"⟩, prog_1_method_6_code, 2, some .int, 5, 118)
abbrev q_Hu_twiceArea : AM := (⟨"PointDesk$Hull", "twiceArea", "()J"⟩, prog_3_method_14_code, 4, some .long, 1, 27)
abbrev q_De_area : AM := (⟨"PointDesk", "area", "()J"⟩, prog_1_method_7_code, 1, some .long, 5, 118)
abbrev q_De_layer : AM := (⟨"PointDesk", "layer", "(I)I"⟩, prog_1_method_8_code, 2, some .int, 6, 142)
abbrev q_De_pair : AM := (⟨"PointDesk", "pair", "(I)I"⟩, prog_1_method_9_code, 9, some .int, 1, 26)
abbrev q_De_distance : AM := (⟨"PointDesk", "distance", "(II)J"⟩, prog_1_method_10_code, 3, some .long, 2, 42)
abbrev q_Hs_height : AM := (⟨"PointDesk$HullSides", "height", "(I)J"⟩, prog_4_method_2_code, 5, some .long, 1, 27)
abbrev q_Hs_span : AM := (⟨"PointDesk$HullSides", "span", "(I)J"⟩, prog_4_method_4_code, 9, some .long, 1, 27)
abbrev q_Hs_width : AM := (⟨"PointDesk$HullSides", "width", "(II)J"⟩, prog_4_method_7_code, 3, some .long, 2, 55)
abbrev q_Hs_length : AM := (⟨"PointDesk$HullSides", "length", "(I)J"⟩, prog_4_method_3_code, 2, some .long, 1, 26)
abbrev q_Wi_multiplyBy : AM := (⟨"PointDesk$WideProduct", "multiplyBy", "(J)V"⟩, prog_9_method_3_code, 8, none, 0, 0)
abbrev q_Wi_setTo : AM := (⟨"PointDesk$WideProduct", "setTo", "(JJJ)V"⟩, prog_9_method_2_code, 8, none, 1, 27)
abbrev q_Wi_isBelow : AM := (⟨"PointDesk$WideProduct", "isBelow", "(LPointDesk$WideProduct;)Z"⟩, prog_9_method_4_code, 3, some .boolean, 0, 0)
abbrev q_Hs_isLess : AM := (⟨"PointDesk$HullSides", "isLess", "(III)Z"⟩, prog_4_method_6_code, 4, some .boolean, 3, 77)
abbrev q_Hs_firstLeast : AM := (⟨"PointDesk$HullSides", "firstLeast", "(I)I"⟩, prog_4_method_5_code, 4, some .int, 4, 100)
abbrev q_De_best : AM := (⟨"PointDesk", "best", "(I)I"⟩, prog_1_method_11_code, 2, some .int, 5, 123)
abbrev q_De_side : AM := (⟨"PointDesk", "side", "(II)J"⟩, prog_1_method_12_code, 3, some .long, 5, 118)
abbrev q_De_requireInPlane : AM := (⟨"PointDesk", "requireInPlane", "(II)V"⟩, prog_1_method_29_code, 2, none, 1, 21)
abbrev q_Po_ask : AM := (⟨"PointDesk$Points", "ask", "(II)V"⟩, prog_6_method_5_code, 3, none, 0, 0)
abbrev q_De_where : AM := (⟨"PointDesk", "where", "(II)I"⟩, prog_1_method_13_code, 3, some .int, 5, 118)
abbrev q_De_nearest : AM := (⟨"PointDesk", "nearest", "(II)I"⟩, prog_1_method_14_code, 5, some .int, 2, 42)
abbrev q_Po_handOf : AM := (⟨"PointDesk$Points", "handOf", "(III)I"⟩, prog_6_method_7_code, 6, some .int, 1, 27)
abbrev q_De_beside : AM := (⟨"PointDesk", "beside", "(III)I"⟩, prog_1_method_15_code, 6, some .int, 2, 52)
abbrev q_Ro_append : AM := (⟨"PointDesk$Route", "append", "(I)V"⟩, prog_7_method_2_code, 2, none, 0, 0)
abbrev q_De_go : AM := (⟨"PointDesk", "go", "(I)I"⟩, prog_1_method_16_code, 2, some .int, 1, 21)
abbrev q_De_stop : AM := (⟨"PointDesk", "stop", "()I"⟩, prog_1_method_17_code, 2, some .int, 1, 20)
abbrev q_De_place : AM := (⟨"PointDesk", "place", "(I)I"⟩, prog_1_method_18_code, 2, some .int, 0, 0)
abbrev q_Ro_reverse : AM := (⟨"PointDesk$Route", "reverse", "(II)V"⟩, prog_7_method_4_code, 6, none, 0, 0)
abbrev q_De_turn : AM := (⟨"PointDesk", "turn", "(II)V"⟩, prog_1_method_19_code, 3, none, 1, 25)
abbrev q_Ro_placeAfter : AM := (⟨"PointDesk$Route", "placeAfter", "(I)I"⟩, prog_7_method_5_code, 2, some .int, 0, 0)
abbrev q_Ro_pointAfter : AM := (⟨"PointDesk$Route", "pointAfter", "(I)I"⟩, prog_7_method_6_code, 2, some .int, 1, 21)
abbrev q_Cr_foldsBack : AM := (⟨"PointDesk$Crossings", "foldsBack", "(II)Z"⟩, prog_2_method_4_code, 6, some .boolean, 2, 42)
abbrev q_Po_segmentsMeet : AM := (⟨"PointDesk$Points", "segmentsMeet", "(IIII)Z"⟩, prog_6_method_13_code, 7, some .boolean, 2, 52)
abbrev q_Cr_doCross : AM := (⟨"PointDesk$Crossings", "doCross", "(II)Z"⟩, prog_2_method_3_code, 3, some .boolean, 3, 78)
abbrev q_Ro_pointsAreApart : AM := (⟨"PointDesk$Route", "pointsAreApart", "()Z"⟩, prog_7_method_7_code, 3, some .boolean, 1, 22)
abbrev q_Cr_refresh : AM := (⟨"PointDesk$Crossings", "refresh", "()V"⟩, prog_2_method_2_code, 4, none, 4, 100)
abbrev q_De_crossings : AM := (⟨"PointDesk", "crossings", "()I"⟩, prog_1_method_20_code, 1, some .int, 5, 123)
abbrev q_De_crossing : AM := (⟨"PointDesk", "crossing", "(I)I"⟩, prog_1_method_21_code, 2, some .int, 5, 123)
abbrev q_De_isRouteSimple : AM := (⟨"PointDesk", "isRouteSimple", "()Z"⟩, prog_1_method_27_code, 1, some .boolean, 5, 123)
abbrev q_De_simple : AM := (⟨"PointDesk", "simple", "()I"⟩, prog_1_method_22_code, 1, some .int, 6, 143)
abbrev q_Po_roundProduct : AM := (⟨"PointDesk$Points", "roundProduct", "(II)J"⟩, prog_6_method_9_code, 3, some .long, 0, 0)
abbrev q_Ro_sumRound : AM := (⟨"PointDesk$Route", "sumRound", "()J"⟩, prog_7_method_8_code, 4, some .long, 2, 42)
abbrev q_De_round : AM := (⟨"PointDesk", "round", "()J"⟩, prog_1_method_23_code, 1, some .long, 3, 65)
abbrev q_Po_isSeenFrom : AM := (⟨"PointDesk$Points", "isSeenFrom", "(III)Z"⟩, prog_6_method_14_code, 6, some .boolean, 2, 52)
abbrev q_Ro_holds : AM := (⟨"PointDesk$Route", "holds", "(I)I"⟩, prog_7_method_9_code, 4, some .int, 3, 77)
abbrev q_De_inside : AM := (⟨"PointDesk", "inside", "(II)I"⟩, prog_1_method_24_code, 3, some .int, 6, 143)
abbrev q_Tr_before : AM := (⟨"PointDesk$Triangles", "before", "(I)I"⟩, prog_8_method_6_code, 2, some .int, 0, 0)
abbrev q_Tr_behind : AM := (⟨"PointDesk$Triangles", "behind", "(I)I"⟩, prog_8_method_7_code, 2, some .int, 0, 0)
abbrev q_Tr_turnInwards : AM := (⟨"PointDesk$Triangles", "turnInwards", "(III)J"⟩, prog_8_method_10_code, 4, some .long, 1, 27)
abbrev q_Tr_isInTriangle : AM := (⟨"PointDesk$Triangles", "isInTriangle", "(IIII)Z"⟩, prog_8_method_11_code, 5, some .boolean, 1, 27)
abbrev q_Tr_isEar : AM := (⟨"PointDesk$Triangles", "isEar", "(I)Z"⟩, prog_8_method_9_code, 8, some .boolean, 2, 51)
abbrev q_Tr_firstEar : AM := (⟨"PointDesk$Triangles", "firstEar", "()I"⟩, prog_8_method_8_code, 3, some .int, 3, 78)
abbrev q_Tr_keep : AM := (⟨"PointDesk$Triangles", "keep", "(III)V"⟩, prog_8_method_4_code, 4, none, 0, 0)
abbrev q_Tr_remove : AM := (⟨"PointDesk$Triangles", "remove", "(I)V"⟩, prog_8_method_5_code, 3, none, 0, 0)
abbrev q_Tr_cutAll : AM := (⟨"PointDesk$Triangles", "cutAll", "()V"⟩, prog_8_method_3_code, 3, none, 4, 100)
abbrev q_Tr_refresh : AM := (⟨"PointDesk$Triangles", "refresh", "(Z)V"⟩, prog_8_method_2_code, 2, none, 5, 122)
abbrev q_De_triangle : AM := (⟨"PointDesk", "triangle", "(I)I"⟩, prog_1_method_25_code, 2, some .int, 6, 143)
abbrev q_Hu_holdsAllPoints : AM := (⟨"PointDesk$Hull", "holdsAllPoints", "()Z"⟩, prog_3_method_13_code, 2, some .boolean, 3, 75)
abbrev q_Hu_sumRound : AM := (⟨"PointDesk$Hull", "sumRound", "()J"⟩, prog_3_method_15_code, 4, some .long, 1, 22)
abbrev q_Tr_fillTheRoute : AM := (⟨"PointDesk$Triangles", "fillTheRoute", "()Z"⟩, prog_8_method_12_code, 7, some .boolean, 3, 65)
abbrev q_De_check : AM := (⟨"PointDesk", "check", "()I"⟩, prog_1_method_26_code, 2, some .int, 6, 143)
abbrev q_Mo_thrown : AM := (⟨"PointDeskModel", "thrown", "()I"⟩, prog_11_method_2_code, 1, some .int, 0, 0)
abbrev q_Mo_isFar : AM := (⟨"PointDeskModel", "isFar", "(I)Z"⟩, prog_11_method_4_code, 1, some .boolean, 0, 0)
abbrev q_Mo_add : AM := (⟨"PointDeskModel", "add", "(II)I"⟩, prog_11_method_3_code, 3, some .int, 1, 20)
abbrev q_Mo_clear : AM := (⟨"PointDeskModel", "clear", "()I"⟩, prog_11_method_5_code, 2, some .int, 0, 0)
abbrev q_Mo_c : AM := (⟨"PointDeskModel", "c", "(IIII)J"⟩, prog_11_method_6_code, 5, some .long, 0, 0)
abbrev q_Mo_turnOf : AM := (⟨"PointDeskModel", "turnOf", "(III)J"⟩, prog_11_method_7_code, 4, some .long, 1, 24)
abbrev q_Mo_farOf : AM := (⟨"PointDeskModel", "farOf", "(III)J"⟩, prog_11_method_8_code, 4, some .long, 0, 0)
abbrev q_Mo_isSame : AM := (⟨"PointDeskModel", "isSame", "(II)Z"⟩, prog_11_method_9_code, 3, some .boolean, 0, 0)
abbrev q_Mo_isAmong : AM := (⟨"PointDeskModel", "isAmong", "(III)Z"⟩, prog_11_method_10_code, 3, some .boolean, 0, 0)
abbrev q_Mo_isOn : AM := (⟨"PointDeskModel", "isOn", "(IIII)Z"⟩, prog_11_method_11_code, 5, some .boolean, 1, 24)
abbrev q_Mo_next : AM := (⟨"PointDeskModel", "next", "(I)I"⟩, prog_11_method_12_code, 2, some .int, 0, 0)
abbrev q_Mo_follower : AM := (⟨"PointDeskModel", "follower", "(I)I"⟩, prog_11_method_14_code, 7, some .int, 2, 47)
abbrev q_Mo_wrap : AM := (⟨"PointDeskModel", "wrap", "()V"⟩, prog_11_method_13_code, 4, none, 3, 73)
abbrev q_Mo_whereIs : AM := (⟨"PointDeskModel", "whereIs", "(II)I"⟩, prog_11_method_15_code, 7, some .int, 2, 48)
abbrev q_Mo_markAll : AM := (⟨"PointDeskModel", "markAll", "()V"⟩, prog_11_method_16_code, 2, none, 0, 0)
abbrev q_Mo_hull : AM := (⟨"PointDeskModel", "hull", "()V"⟩, prog_11_method_17_code, 1, none, 4, 96)
abbrev q_Mo_peel : AM := (⟨"PointDeskModel", "peel", "()I"⟩, prog_11_method_18_code, 5, some .int, 4, 96)
abbrev q_Mo_lines : AM := (⟨"PointDeskModel", "lines", "()I"⟩, prog_11_method_20_code, 5, some .int, 2, 47)
abbrev q_Mo_count : AM := (⟨"PointDeskModel", "count", "(I)I"⟩, prog_11_method_19_code, 5, some .int, 5, 120)
abbrev q_Mo_isPoint : AM := (⟨"PointDeskModel", "isPoint", "(I)Z"⟩, prog_11_method_21_code, 2, some .boolean, 0, 0)
abbrev q_Mo_at : AM := (⟨"PointDeskModel", "at", "(II)I"⟩, prog_11_method_22_code, 3, some .int, 1, 21)
abbrev q_Mo_corner : AM := (⟨"PointDeskModel", "corner", "(I)I"⟩, prog_11_method_23_code, 2, some .int, 5, 116)
abbrev q_Mo_area : AM := (⟨"PointDeskModel", "area", "()J"⟩, prog_11_method_24_code, 6, some .long, 5, 116)
abbrev q_Mo_layer : AM := (⟨"PointDeskModel", "layer", "(I)I"⟩, prog_11_method_25_code, 3, some .int, 5, 120)
abbrev q_Mo_pair : AM := (⟨"PointDeskModel", "pair", "(I)I"⟩, prog_11_method_26_code, 9, some .int, 1, 23)
abbrev q_Mo_distance : AM := (⟨"PointDeskModel", "distance", "(II)J"⟩, prog_11_method_27_code, 3, some .long, 1, 23)
abbrev q_Mo_heightOf : AM := (⟨"PointDeskModel", "heightOf", "(I)J"⟩, prog_11_method_28_code, 7, some .long, 2, 47)
abbrev q_Mo_lengthOf : AM := (⟨"PointDeskModel", "lengthOf", "(I)J"⟩, prog_11_method_29_code, 2, some .long, 1, 23)
abbrev q_Mo_spanOf : AM := (⟨"PointDeskModel", "spanOf", "(I)J"⟩, prog_11_method_30_code, 12, some .long, 1, 21)
abbrev q_Mo_times : AM := (⟨"PointDeskModel", "times", "(IJ)V"⟩, prog_11_method_31_code, 9, none, 0, 0)
abbrev q_Mo_product : AM := (⟨"PointDeskModel", "product", "(IJJJ)V"⟩, prog_11_method_32_code, 9, none, 1, 28)
abbrev q_Mo_isLess : AM := (⟨"PointDeskModel", "isLess", "()Z"⟩, prog_11_method_33_code, 2, some .boolean, 0, 0)
abbrev q_Mo_best : AM := (⟨"PointDeskModel", "best", "(I)I"⟩, prog_11_method_34_code, 4, some .int, 5, 116)
abbrev q_Mo_side : AM := (⟨"PointDeskModel", "side", "(II)J"⟩, prog_11_method_35_code, 3, some .long, 5, 116)
abbrev q_Mo_where : AM := (⟨"PointDeskModel", "where", "(II)I"⟩, prog_11_method_36_code, 3, some .int, 5, 116)
abbrev q_Mo_nearest : AM := (⟨"PointDeskModel", "nearest", "(II)I"⟩, prog_11_method_37_code, 5, some .int, 1, 23)
abbrev q_Mo_signOf : AM := (⟨"PointDeskModel", "signOf", "(J)I"⟩, prog_11_method_39_code, 2, some .int, 0, 0)
abbrev q_Mo_beside : AM := (⟨"PointDeskModel", "beside", "(III)I"⟩, prog_11_method_38_code, 6, some .int, 2, 47)
abbrev q_Mo_go : AM := (⟨"PointDeskModel", "go", "(I)I"⟩, prog_11_method_40_code, 2, some .int, 1, 21)
abbrev q_Mo_stop : AM := (⟨"PointDeskModel", "stop", "()I"⟩, prog_11_method_41_code, 2, some .int, 0, 0)
abbrev q_Mo_place : AM := (⟨"PointDeskModel", "place", "(I)I"⟩, prog_11_method_42_code, 2, some .int, 0, 0)
abbrev q_Mo_turn : AM := (⟨"PointDeskModel", "turn", "(II)V"⟩, prog_11_method_43_code, 5, none, 0, 0)
abbrev q_Mo_behind : AM := (⟨"PointDeskModel", "behind", "(I)I"⟩, prog_11_method_44_code, 2, some .int, 0, 0)
abbrev q_Mo_doMeet : AM := (⟨"PointDeskModel", "doMeet", "(IIII)Z"⟩, prog_11_method_45_code, 8, some .boolean, 0, 0)
abbrev q_Mo_doShare : AM := (⟨"PointDeskModel", "doShare", "(IIII)Z"⟩, prog_11_method_46_code, 6, some .boolean, 2, 47)
abbrev q_Mo_doOverlap : AM := (⟨"PointDeskModel", "doOverlap", "(III)Z"⟩, prog_11_method_47_code, 4, some .boolean, 2, 48)
abbrev q_Mo_doCross : AM := (⟨"PointDeskModel", "doCross", "(II)Z"⟩, prog_11_method_48_code, 7, some .boolean, 3, 72)
abbrev q_Mo_crossings : AM := (⟨"PointDeskModel", "crossings", "()I"⟩, prog_11_method_49_code, 4, some .int, 4, 98)
abbrev q_Mo_crossing : AM := (⟨"PointDeskModel", "crossing", "(I)I"⟩, prog_11_method_50_code, 5, some .int, 4, 98)
abbrev q_Mo_isSimple : AM := (⟨"PointDeskModel", "isSimple", "()Z"⟩, prog_11_method_51_code, 4, some .boolean, 4, 98)
abbrev q_Mo_simple : AM := (⟨"PointDeskModel", "simple", "()I"⟩, prog_11_method_52_code, 1, some .int, 5, 121)
abbrev q_Mo_roundOf : AM := (⟨"PointDeskModel", "roundOf", "()J"⟩, prog_11_method_53_code, 4, some .long, 2, 47)
abbrev q_Mo_round : AM := (⟨"PointDeskModel", "round", "()J"⟩, prog_11_method_54_code, 1, some .long, 3, 70)
abbrev q_Mo_inside : AM := (⟨"PointDeskModel", "inside", "(II)I"⟩, prog_11_method_55_code, 9, some .int, 5, 121)
abbrev q_Mo_leftFrom : AM := (⟨"PointDeskModel", "leftFrom", "(II)I"⟩, prog_11_method_56_code, 4, some .int, 0, 0)
abbrev q_Mo_isEar : AM := (⟨"PointDeskModel", "isEar", "(II)Z"⟩, prog_11_method_57_code, 10, some .boolean, 2, 47)
abbrev q_Mo_triangle : AM := (⟨"PointDeskModel", "triangle", "(I)I"⟩, prog_11_method_58_code, 6, some .int, 5, 121)
abbrev q_Mo_check : AM := (⟨"PointDeskModel", "check", "()I"⟩, prog_11_method_59_code, 1, some .int, 0, 0)
abbrev am_ms : List AM := [q_De_isInPlane, q_Po_append, q_De_add, q_Po_removeAll, q_Ro_removeAll, q_De_clear, q_Hu_takeAllIn, q_Hu_takesIn, q_Hu_isLower, q_Hu_lowest, q_Po_areAtOnePlace, q_Po_crossProduct, q_Po_squaredDistance, q_Hu_isBetter, q_Hu_cornerBehind, q_Hu_wrap, q_Hu_refresh, q_Po_dotProduct, q_Po_isOnSegment, q_Hu_cornerAfter, q_Hu_holds, q_Hu_leaveOut, q_La_takeOffBorder, q_La_refresh, q_Po_pairsAtOnePlace, q_Po_threesOnOneLine, q_De_count, q_Po_has, q_De_requirePoint, q_De_at, q_De_corner, q_Hu_twiceArea, q_De_area, q_De_layer, q_De_pair, q_De_distance, q_Hs_height, q_Hs_span, q_Hs_width, q_Hs_length, q_Wi_multiplyBy, q_Wi_setTo, q_Wi_isBelow, q_Hs_isLess, q_Hs_firstLeast, q_De_best, q_De_side, q_De_requireInPlane, q_Po_ask, q_De_where, q_De_nearest, q_Po_handOf, q_De_beside, q_Ro_append, q_De_go, q_De_stop, q_De_place, q_Ro_reverse, q_De_turn, q_Ro_placeAfter, q_Ro_pointAfter, q_Cr_foldsBack, q_Po_segmentsMeet, q_Cr_doCross, q_Ro_pointsAreApart, q_Cr_refresh, q_De_crossings, q_De_crossing, q_De_isRouteSimple, q_De_simple, q_Po_roundProduct, q_Ro_sumRound, q_De_round, q_Po_isSeenFrom, q_Ro_holds, q_De_inside, q_Tr_before, q_Tr_behind, q_Tr_turnInwards, q_Tr_isInTriangle, q_Tr_isEar, q_Tr_firstEar, q_Tr_keep, q_Tr_remove, q_Tr_cutAll, q_Tr_refresh, q_De_triangle, q_Hu_holdsAllPoints, q_Hu_sumRound, q_Tr_fillTheRoute, q_De_check, q_Mo_thrown, q_Mo_isFar, q_Mo_add, q_Mo_clear, q_Mo_c, q_Mo_turnOf, q_Mo_farOf, q_Mo_isSame, q_Mo_isAmong, q_Mo_isOn, q_Mo_next, q_Mo_follower, q_Mo_wrap, q_Mo_whereIs, q_Mo_markAll, q_Mo_hull, q_Mo_peel, q_Mo_lines, q_Mo_count, q_Mo_isPoint, q_Mo_at, q_Mo_corner, q_Mo_area, q_Mo_layer, q_Mo_pair, q_Mo_distance, q_Mo_heightOf, q_Mo_lengthOf, q_Mo_spanOf, q_Mo_times, q_Mo_product, q_Mo_isLess, q_Mo_best, q_Mo_side, q_Mo_where, q_Mo_nearest, q_Mo_signOf, q_Mo_beside, q_Mo_go, q_Mo_stop, q_Mo_place, q_Mo_turn, q_Mo_behind, q_Mo_doMeet, q_Mo_doShare, q_Mo_doOverlap, q_Mo_doCross, q_Mo_crossings, q_Mo_crossing, q_Mo_isSimple, q_Mo_simple, q_Mo_roundOf, q_Mo_round, q_Mo_inside, q_Mo_leftFrom, q_Mo_isEar, q_Mo_triangle, q_Mo_check]
abbrev am_mi (k : Nat) : AM := am_ms.getD k q_De_isInPlane
abbrev am_g (E : AE) (l : Launch) : AG := am_G am_Y am_cl E l am_Gw am_mi
