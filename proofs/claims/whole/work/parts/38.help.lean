/-! printed: the law's words and helpers -/
theorem mL_41 : Cond.methodLink "PointDeskLaw" 41 ⟨"PointDesk", "<init>", "()V"⟩ ∈ am_Gw := am_Gin 69 (by decide +kernel) (by decide +kernel)
theorem mL_45 : Cond.methodLink "PointDeskLaw" 45 ⟨"PointDesk", "add", "(II)I"⟩ ∈ am_Gw := am_Gin 297 (by decide +kernel) (by decide +kernel)
theorem mL_49 : Cond.methodLink "PointDeskLaw" 49 ⟨"PointDesk", "clear", "()I"⟩ ∈ am_Gw := am_Gin 310 (by decide +kernel) (by decide +kernel)
theorem mL_54 : Cond.methodLink "PointDeskLaw" 54 ⟨"PointDesk", "count", "(I)I"⟩ ∈ am_Gw := am_Gin 322 (by decide +kernel) (by decide +kernel)
theorem mL_68 : Cond.methodLink "PointDeskLaw" 68 ⟨"PointDesk", "corner", "(I)I"⟩ ∈ am_Gw := am_Gin 411 (by decide +kernel) (by decide +kernel)
theorem mL_72 : Cond.methodLink "PointDeskLaw" 72 ⟨"PointDesk", "area", "()J"⟩ ∈ am_Gw := am_Gin 415 (by decide +kernel) (by decide +kernel)
theorem mL_77 : Cond.methodLink "PointDeskLaw" 77 ⟨"PointDesk", "layer", "(I)I"⟩ ∈ am_Gw := am_Gin 423 (by decide +kernel) (by decide +kernel)
theorem mL_81 : Cond.methodLink "PointDeskLaw" 81 ⟨"PointDesk", "pair", "(I)I"⟩ ∈ am_Gw := am_Gin 431 (by decide +kernel) (by decide +kernel)
theorem mL_88 : Cond.methodLink "PointDeskLaw" 88 ⟨"PointDesk", "best", "(I)I"⟩ ∈ am_Gw := am_Gin 436 (by decide +kernel) (by decide +kernel)
theorem mL_105 : Cond.methodLink "PointDeskLaw" 105 ⟨"PointDesk", "go", "(I)I"⟩ ∈ am_Gw := am_Gin 487 (by decide +kernel) (by decide +kernel)
theorem mL_109 : Cond.methodLink "PointDeskLaw" 109 ⟨"PointDesk", "stop", "()I"⟩ ∈ am_Gw := am_Gin 495 (by decide +kernel) (by decide +kernel)
theorem mL_113 : Cond.methodLink "PointDeskLaw" 113 ⟨"PointDesk", "place", "(I)I"⟩ ∈ am_Gw := am_Gin 499 (by decide +kernel) (by decide +kernel)
theorem mL_121 : Cond.methodLink "PointDeskLaw" 121 ⟨"PointDesk", "crossings", "()I"⟩ ∈ am_Gw := am_Gin 503 (by decide +kernel) (by decide +kernel)
theorem mL_125 : Cond.methodLink "PointDeskLaw" 125 ⟨"PointDesk", "crossing", "(I)I"⟩ ∈ am_Gw := am_Gin 544 (by decide +kernel) (by decide +kernel)
theorem mL_129 : Cond.methodLink "PointDeskLaw" 129 ⟨"PointDesk", "simple", "()I"⟩ ∈ am_Gw := am_Gin 548 (by decide +kernel) (by decide +kernel)
theorem mL_133 : Cond.methodLink "PointDeskLaw" 133 ⟨"PointDesk", "round", "()J"⟩ ∈ am_Gw := am_Gin 556 (by decide +kernel) (by decide +kernel)
theorem mL_140 : Cond.methodLink "PointDeskLaw" 140 ⟨"PointDesk", "triangle", "(I)I"⟩ ∈ am_Gw := am_Gin 569 (by decide +kernel) (by decide +kernel)
theorem mL_144 : Cond.methodLink "PointDeskLaw" 144 ⟨"PointDesk", "check", "()I"⟩ ∈ am_Gw := am_Gin 615 (by decide +kernel) (by decide +kernel)
theorem mL_59 : Cond.methodLink "PointDeskLaw" 59 ⟨"PointDeskLaw", "at", "(LPointDesk;II[J)I"⟩ ∈ am_Gw := am_Gin 633 (by decide +kernel) (by decide +kernel)
theorem mL_7 : Cond.methodLink "PointDeskLaw" 7 ⟨"PointDesk", "at", "(II)I"⟩ ∈ am_Gw := am_Gin 638 (by decide +kernel) (by decide +kernel)
theorem mL_85 : Cond.methodLink "PointDeskLaw" 85 ⟨"PointDeskLaw", "distance", "(LPointDesk;II[J)I"⟩ ∈ am_Gw := am_Gin 729 (by decide +kernel) (by decide +kernel)
theorem mL_17 : Cond.methodLink "PointDeskLaw" 17 ⟨"PointDesk", "distance", "(II)J"⟩ ∈ am_Gw := am_Gin 732 (by decide +kernel) (by decide +kernel)
theorem mL_92 : Cond.methodLink "PointDeskLaw" 92 ⟨"PointDeskLaw", "side", "(LPointDesk;II[J)I"⟩ ∈ am_Gw := am_Gin 736 (by decide +kernel) (by decide +kernel)
theorem mL_21 : Cond.methodLink "PointDeskLaw" 21 ⟨"PointDesk", "side", "(II)J"⟩ ∈ am_Gw := am_Gin 739 (by decide +kernel) (by decide +kernel)
theorem mL_95 : Cond.methodLink "PointDeskLaw" 95 ⟨"PointDeskLaw", "where", "(LPointDesk;II[J)I"⟩ ∈ am_Gw := am_Gin 748 (by decide +kernel) (by decide +kernel)
theorem mL_24 : Cond.methodLink "PointDeskLaw" 24 ⟨"PointDesk", "where", "(II)I"⟩ ∈ am_Gw := am_Gin 751 (by decide +kernel) (by decide +kernel)
theorem mL_98 : Cond.methodLink "PointDeskLaw" 98 ⟨"PointDeskLaw", "nearest", "(LPointDesk;II[J)I"⟩ ∈ am_Gw := am_Gin 764 (by decide +kernel) (by decide +kernel)
theorem mL_27 : Cond.methodLink "PointDeskLaw" 27 ⟨"PointDesk", "nearest", "(II)I"⟩ ∈ am_Gw := am_Gin 767 (by decide +kernel) (by decide +kernel)
theorem mL_101 : Cond.methodLink "PointDeskLaw" 101 ⟨"PointDeskLaw", "beside", "(LPointDesk;III[J)I"⟩ ∈ am_Gw := am_Gin 771 (by decide +kernel) (by decide +kernel)
theorem mL_30 : Cond.methodLink "PointDeskLaw" 30 ⟨"PointDesk", "beside", "(III)I"⟩ ∈ am_Gw := am_Gin 774 (by decide +kernel) (by decide +kernel)
theorem mL_117 : Cond.methodLink "PointDeskLaw" 117 ⟨"PointDeskLaw", "turn", "(LPointDesk;II)I"⟩ ∈ am_Gw := am_Gin 780 (by decide +kernel) (by decide +kernel)
theorem mL_34 : Cond.methodLink "PointDeskLaw" 34 ⟨"PointDesk", "turn", "(II)V"⟩ ∈ am_Gw := am_Gin 783 (by decide +kernel) (by decide +kernel)
theorem mL_137 : Cond.methodLink "PointDeskLaw" 137 ⟨"PointDeskLaw", "inside", "(LPointDesk;II[J)I"⟩ ∈ am_Gw := am_Gin 792 (by decide +kernel) (by decide +kernel)
theorem mL_38 : Cond.methodLink "PointDeskLaw" 38 ⟨"PointDesk", "inside", "(II)I"⟩ ∈ am_Gw := am_Gin 795 (by decide +kernel) (by decide +kernel)
theorem mL_44 : Cond.methodLink "PointDeskLaw" 44 ⟨"PointDeskModel", "<init>", "()V"⟩ ∈ am_Gw := am_Gin 810 (by decide +kernel) (by decide +kernel)
theorem mL_65 : Cond.methodLink "PointDeskLaw" 65 ⟨"PointDeskModel", "thrown", "()I"⟩ ∈ am_Gw := am_Gin 854 (by decide +kernel) (by decide +kernel)
theorem mL_48 : Cond.methodLink "PointDeskLaw" 48 ⟨"PointDeskModel", "add", "(II)I"⟩ ∈ am_Gw := am_Gin 858 (by decide +kernel) (by decide +kernel)
theorem mL_53 : Cond.methodLink "PointDeskLaw" 53 ⟨"PointDeskModel", "clear", "()I"⟩ ∈ am_Gw := am_Gin 867 (by decide +kernel) (by decide +kernel)
theorem mL_58 : Cond.methodLink "PointDeskLaw" 58 ⟨"PointDeskModel", "count", "(I)I"⟩ ∈ am_Gw := am_Gin 871 (by decide +kernel) (by decide +kernel)
theorem mL_64 : Cond.methodLink "PointDeskLaw" 64 ⟨"PointDeskModel", "at", "(II)I"⟩ ∈ am_Gw := am_Gin 931 (by decide +kernel) (by decide +kernel)
theorem mL_71 : Cond.methodLink "PointDeskLaw" 71 ⟨"PointDeskModel", "corner", "(I)I"⟩ ∈ am_Gw := am_Gin 939 (by decide +kernel) (by decide +kernel)
theorem mL_76 : Cond.methodLink "PointDeskLaw" 76 ⟨"PointDeskModel", "area", "()J"⟩ ∈ am_Gw := am_Gin 943 (by decide +kernel) (by decide +kernel)
theorem mL_80 : Cond.methodLink "PointDeskLaw" 80 ⟨"PointDeskModel", "layer", "(I)I"⟩ ∈ am_Gw := am_Gin 947 (by decide +kernel) (by decide +kernel)
theorem mL_84 : Cond.methodLink "PointDeskLaw" 84 ⟨"PointDeskModel", "pair", "(I)I"⟩ ∈ am_Gw := am_Gin 951 (by decide +kernel) (by decide +kernel)
theorem mL_87 : Cond.methodLink "PointDeskLaw" 87 ⟨"PointDeskModel", "distance", "(II)J"⟩ ∈ am_Gw := am_Gin 955 (by decide +kernel) (by decide +kernel)
theorem mL_91 : Cond.methodLink "PointDeskLaw" 91 ⟨"PointDeskModel", "best", "(I)I"⟩ ∈ am_Gw := am_Gin 959 (by decide +kernel) (by decide +kernel)
theorem mL_94 : Cond.methodLink "PointDeskLaw" 94 ⟨"PointDeskModel", "side", "(II)J"⟩ ∈ am_Gw := am_Gin 988 (by decide +kernel) (by decide +kernel)
theorem mL_97 : Cond.methodLink "PointDeskLaw" 97 ⟨"PointDeskModel", "where", "(II)I"⟩ ∈ am_Gw := am_Gin 992 (by decide +kernel) (by decide +kernel)
theorem mL_100 : Cond.methodLink "PointDeskLaw" 100 ⟨"PointDeskModel", "nearest", "(II)I"⟩ ∈ am_Gw := am_Gin 996 (by decide +kernel) (by decide +kernel)
theorem mL_104 : Cond.methodLink "PointDeskLaw" 104 ⟨"PointDeskModel", "beside", "(III)I"⟩ ∈ am_Gw := am_Gin 1000 (by decide +kernel) (by decide +kernel)
theorem mL_108 : Cond.methodLink "PointDeskLaw" 108 ⟨"PointDeskModel", "go", "(I)I"⟩ ∈ am_Gw := am_Gin 1007 (by decide +kernel) (by decide +kernel)
theorem mL_112 : Cond.methodLink "PointDeskLaw" 112 ⟨"PointDeskModel", "stop", "()I"⟩ ∈ am_Gw := am_Gin 1011 (by decide +kernel) (by decide +kernel)
theorem mL_116 : Cond.methodLink "PointDeskLaw" 116 ⟨"PointDeskModel", "place", "(I)I"⟩ ∈ am_Gw := am_Gin 1015 (by decide +kernel) (by decide +kernel)
theorem mL_120 : Cond.methodLink "PointDeskLaw" 120 ⟨"PointDeskModel", "turn", "(II)V"⟩ ∈ am_Gw := am_Gin 1019 (by decide +kernel) (by decide +kernel)
theorem mL_124 : Cond.methodLink "PointDeskLaw" 124 ⟨"PointDeskModel", "crossings", "()I"⟩ ∈ am_Gw := am_Gin 1023 (by decide +kernel) (by decide +kernel)
theorem mL_128 : Cond.methodLink "PointDeskLaw" 128 ⟨"PointDeskModel", "crossing", "(I)I"⟩ ∈ am_Gw := am_Gin 1046 (by decide +kernel) (by decide +kernel)
theorem mL_132 : Cond.methodLink "PointDeskLaw" 132 ⟨"PointDeskModel", "simple", "()I"⟩ ∈ am_Gw := am_Gin 1050 (by decide +kernel) (by decide +kernel)
theorem mL_136 : Cond.methodLink "PointDeskLaw" 136 ⟨"PointDeskModel", "round", "()J"⟩ ∈ am_Gw := am_Gin 1058 (by decide +kernel) (by decide +kernel)
theorem mL_139 : Cond.methodLink "PointDeskLaw" 139 ⟨"PointDeskModel", "inside", "(II)I"⟩ ∈ am_Gw := am_Gin 1066 (by decide +kernel) (by decide +kernel)
theorem mL_143 : Cond.methodLink "PointDeskLaw" 143 ⟨"PointDeskModel", "triangle", "(I)I"⟩ ∈ am_Gw := am_Gin 1070 (by decide +kernel) (by decide +kernel)
theorem mL_147 : Cond.methodLink "PointDeskLaw" 147 ⟨"PointDeskModel", "check", "()I"⟩ ∈ am_Gw := am_Gin 1082 (by decide +kernel) (by decide +kernel)
theorem v_De_add : Cond.instanceMethod q_De_add.1 ∈ am_Gw ∧ Cond.selects q_De_add.1.cls q_De_add.1 q_De_add.1 ∈ am_Gw ∧ Cond.initialized q_De_add.1.cls ∈ am_Gw ∧ Cond.code q_De_add.1 q_De_add.2.1 q_De_add.2.2.1 q_De_add.2.2.2.1 ∈ am_Gw := ⟨am_Gin 298 (by decide +kernel) (by decide +kernel), am_Gin 299 (by decide +kernel) (by decide +kernel), am_Gin 51 (by decide +kernel) (by decide +kernel), am_Gin 300 (by decide +kernel) (by decide +kernel)⟩
theorem v_De_addd : q_De_add.1.cls ≠ "java/lang/invoke/MethodHandle" ∧ q_De_add.1.cls ≠ "java/lang/invoke/VarHandle" ∧ (parseMethodDescriptor q_De_add.1.desc).map (fun d => d.parameters.length) = some 2 := by decide +kernel
theorem v_De_clear : Cond.instanceMethod q_De_clear.1 ∈ am_Gw ∧ Cond.selects q_De_clear.1.cls q_De_clear.1 q_De_clear.1 ∈ am_Gw ∧ Cond.initialized q_De_clear.1.cls ∈ am_Gw ∧ Cond.code q_De_clear.1 q_De_clear.2.1 q_De_clear.2.2.1 q_De_clear.2.2.2.1 ∈ am_Gw := ⟨am_Gin 311 (by decide +kernel) (by decide +kernel), am_Gin 312 (by decide +kernel) (by decide +kernel), am_Gin 51 (by decide +kernel) (by decide +kernel), am_Gin 313 (by decide +kernel) (by decide +kernel)⟩
theorem v_De_cleard : q_De_clear.1.cls ≠ "java/lang/invoke/MethodHandle" ∧ q_De_clear.1.cls ≠ "java/lang/invoke/VarHandle" ∧ (parseMethodDescriptor q_De_clear.1.desc).map (fun d => d.parameters.length) = some 0 := by decide +kernel
theorem v_De_count : Cond.instanceMethod q_De_count.1 ∈ am_Gw ∧ Cond.selects q_De_count.1.cls q_De_count.1 q_De_count.1 ∈ am_Gw ∧ Cond.initialized q_De_count.1.cls ∈ am_Gw ∧ Cond.code q_De_count.1 q_De_count.2.1 q_De_count.2.2.1 q_De_count.2.2.2.1 ∈ am_Gw := ⟨am_Gin 323 (by decide +kernel) (by decide +kernel), am_Gin 324 (by decide +kernel) (by decide +kernel), am_Gin 51 (by decide +kernel) (by decide +kernel), am_Gin 325 (by decide +kernel) (by decide +kernel)⟩
theorem v_De_countd : q_De_count.1.cls ≠ "java/lang/invoke/MethodHandle" ∧ q_De_count.1.cls ≠ "java/lang/invoke/VarHandle" ∧ (parseMethodDescriptor q_De_count.1.desc).map (fun d => d.parameters.length) = some 1 := by decide +kernel
theorem v_De_corner : Cond.instanceMethod q_De_corner.1 ∈ am_Gw ∧ Cond.selects q_De_corner.1.cls q_De_corner.1 q_De_corner.1 ∈ am_Gw ∧ Cond.initialized q_De_corner.1.cls ∈ am_Gw ∧ Cond.code q_De_corner.1 q_De_corner.2.1 q_De_corner.2.2.1 q_De_corner.2.2.2.1 ∈ am_Gw := ⟨am_Gin 412 (by decide +kernel) (by decide +kernel), am_Gin 413 (by decide +kernel) (by decide +kernel), am_Gin 51 (by decide +kernel) (by decide +kernel), am_Gin 414 (by decide +kernel) (by decide +kernel)⟩
theorem v_De_cornerd : q_De_corner.1.cls ≠ "java/lang/invoke/MethodHandle" ∧ q_De_corner.1.cls ≠ "java/lang/invoke/VarHandle" ∧ (parseMethodDescriptor q_De_corner.1.desc).map (fun d => d.parameters.length) = some 1 := by decide +kernel
theorem v_De_area : Cond.instanceMethod q_De_area.1 ∈ am_Gw ∧ Cond.selects q_De_area.1.cls q_De_area.1 q_De_area.1 ∈ am_Gw ∧ Cond.initialized q_De_area.1.cls ∈ am_Gw ∧ Cond.code q_De_area.1 q_De_area.2.1 q_De_area.2.2.1 q_De_area.2.2.2.1 ∈ am_Gw := ⟨am_Gin 416 (by decide +kernel) (by decide +kernel), am_Gin 417 (by decide +kernel) (by decide +kernel), am_Gin 51 (by decide +kernel) (by decide +kernel), am_Gin 418 (by decide +kernel) (by decide +kernel)⟩
theorem v_De_aread : q_De_area.1.cls ≠ "java/lang/invoke/MethodHandle" ∧ q_De_area.1.cls ≠ "java/lang/invoke/VarHandle" ∧ (parseMethodDescriptor q_De_area.1.desc).map (fun d => d.parameters.length) = some 0 := by decide +kernel
theorem v_De_layer : Cond.instanceMethod q_De_layer.1 ∈ am_Gw ∧ Cond.selects q_De_layer.1.cls q_De_layer.1 q_De_layer.1 ∈ am_Gw ∧ Cond.initialized q_De_layer.1.cls ∈ am_Gw ∧ Cond.code q_De_layer.1 q_De_layer.2.1 q_De_layer.2.2.1 q_De_layer.2.2.2.1 ∈ am_Gw := ⟨am_Gin 424 (by decide +kernel) (by decide +kernel), am_Gin 425 (by decide +kernel) (by decide +kernel), am_Gin 51 (by decide +kernel) (by decide +kernel), am_Gin 426 (by decide +kernel) (by decide +kernel)⟩
theorem v_De_layerd : q_De_layer.1.cls ≠ "java/lang/invoke/MethodHandle" ∧ q_De_layer.1.cls ≠ "java/lang/invoke/VarHandle" ∧ (parseMethodDescriptor q_De_layer.1.desc).map (fun d => d.parameters.length) = some 1 := by decide +kernel
theorem v_De_pair : Cond.instanceMethod q_De_pair.1 ∈ am_Gw ∧ Cond.selects q_De_pair.1.cls q_De_pair.1 q_De_pair.1 ∈ am_Gw ∧ Cond.initialized q_De_pair.1.cls ∈ am_Gw ∧ Cond.code q_De_pair.1 q_De_pair.2.1 q_De_pair.2.2.1 q_De_pair.2.2.2.1 ∈ am_Gw := ⟨am_Gin 432 (by decide +kernel) (by decide +kernel), am_Gin 433 (by decide +kernel) (by decide +kernel), am_Gin 51 (by decide +kernel) (by decide +kernel), am_Gin 434 (by decide +kernel) (by decide +kernel)⟩
theorem v_De_paird : q_De_pair.1.cls ≠ "java/lang/invoke/MethodHandle" ∧ q_De_pair.1.cls ≠ "java/lang/invoke/VarHandle" ∧ (parseMethodDescriptor q_De_pair.1.desc).map (fun d => d.parameters.length) = some 1 := by decide +kernel
theorem v_De_best : Cond.instanceMethod q_De_best.1 ∈ am_Gw ∧ Cond.selects q_De_best.1.cls q_De_best.1 q_De_best.1 ∈ am_Gw ∧ Cond.initialized q_De_best.1.cls ∈ am_Gw ∧ Cond.code q_De_best.1 q_De_best.2.1 q_De_best.2.2.1 q_De_best.2.2.2.1 ∈ am_Gw := ⟨am_Gin 437 (by decide +kernel) (by decide +kernel), am_Gin 438 (by decide +kernel) (by decide +kernel), am_Gin 51 (by decide +kernel) (by decide +kernel), am_Gin 439 (by decide +kernel) (by decide +kernel)⟩
theorem v_De_bestd : q_De_best.1.cls ≠ "java/lang/invoke/MethodHandle" ∧ q_De_best.1.cls ≠ "java/lang/invoke/VarHandle" ∧ (parseMethodDescriptor q_De_best.1.desc).map (fun d => d.parameters.length) = some 1 := by decide +kernel
theorem v_De_go : Cond.instanceMethod q_De_go.1 ∈ am_Gw ∧ Cond.selects q_De_go.1.cls q_De_go.1 q_De_go.1 ∈ am_Gw ∧ Cond.initialized q_De_go.1.cls ∈ am_Gw ∧ Cond.code q_De_go.1 q_De_go.2.1 q_De_go.2.2.1 q_De_go.2.2.2.1 ∈ am_Gw := ⟨am_Gin 488 (by decide +kernel) (by decide +kernel), am_Gin 489 (by decide +kernel) (by decide +kernel), am_Gin 51 (by decide +kernel) (by decide +kernel), am_Gin 490 (by decide +kernel) (by decide +kernel)⟩
theorem v_De_god : q_De_go.1.cls ≠ "java/lang/invoke/MethodHandle" ∧ q_De_go.1.cls ≠ "java/lang/invoke/VarHandle" ∧ (parseMethodDescriptor q_De_go.1.desc).map (fun d => d.parameters.length) = some 1 := by decide +kernel
theorem v_De_stop : Cond.instanceMethod q_De_stop.1 ∈ am_Gw ∧ Cond.selects q_De_stop.1.cls q_De_stop.1 q_De_stop.1 ∈ am_Gw ∧ Cond.initialized q_De_stop.1.cls ∈ am_Gw ∧ Cond.code q_De_stop.1 q_De_stop.2.1 q_De_stop.2.2.1 q_De_stop.2.2.2.1 ∈ am_Gw := ⟨am_Gin 496 (by decide +kernel) (by decide +kernel), am_Gin 497 (by decide +kernel) (by decide +kernel), am_Gin 51 (by decide +kernel) (by decide +kernel), am_Gin 498 (by decide +kernel) (by decide +kernel)⟩
theorem v_De_stopd : q_De_stop.1.cls ≠ "java/lang/invoke/MethodHandle" ∧ q_De_stop.1.cls ≠ "java/lang/invoke/VarHandle" ∧ (parseMethodDescriptor q_De_stop.1.desc).map (fun d => d.parameters.length) = some 0 := by decide +kernel
theorem v_De_place : Cond.instanceMethod q_De_place.1 ∈ am_Gw ∧ Cond.selects q_De_place.1.cls q_De_place.1 q_De_place.1 ∈ am_Gw ∧ Cond.initialized q_De_place.1.cls ∈ am_Gw ∧ Cond.code q_De_place.1 q_De_place.2.1 q_De_place.2.2.1 q_De_place.2.2.2.1 ∈ am_Gw := ⟨am_Gin 500 (by decide +kernel) (by decide +kernel), am_Gin 501 (by decide +kernel) (by decide +kernel), am_Gin 51 (by decide +kernel) (by decide +kernel), am_Gin 502 (by decide +kernel) (by decide +kernel)⟩
theorem v_De_placed : q_De_place.1.cls ≠ "java/lang/invoke/MethodHandle" ∧ q_De_place.1.cls ≠ "java/lang/invoke/VarHandle" ∧ (parseMethodDescriptor q_De_place.1.desc).map (fun d => d.parameters.length) = some 1 := by decide +kernel
theorem v_De_crossings : Cond.instanceMethod q_De_crossings.1 ∈ am_Gw ∧ Cond.selects q_De_crossings.1.cls q_De_crossings.1 q_De_crossings.1 ∈ am_Gw ∧ Cond.initialized q_De_crossings.1.cls ∈ am_Gw ∧ Cond.code q_De_crossings.1 q_De_crossings.2.1 q_De_crossings.2.2.1 q_De_crossings.2.2.2.1 ∈ am_Gw := ⟨am_Gin 504 (by decide +kernel) (by decide +kernel), am_Gin 505 (by decide +kernel) (by decide +kernel), am_Gin 51 (by decide +kernel) (by decide +kernel), am_Gin 506 (by decide +kernel) (by decide +kernel)⟩
theorem v_De_crossingsd : q_De_crossings.1.cls ≠ "java/lang/invoke/MethodHandle" ∧ q_De_crossings.1.cls ≠ "java/lang/invoke/VarHandle" ∧ (parseMethodDescriptor q_De_crossings.1.desc).map (fun d => d.parameters.length) = some 0 := by decide +kernel
theorem v_De_crossing : Cond.instanceMethod q_De_crossing.1 ∈ am_Gw ∧ Cond.selects q_De_crossing.1.cls q_De_crossing.1 q_De_crossing.1 ∈ am_Gw ∧ Cond.initialized q_De_crossing.1.cls ∈ am_Gw ∧ Cond.code q_De_crossing.1 q_De_crossing.2.1 q_De_crossing.2.2.1 q_De_crossing.2.2.2.1 ∈ am_Gw := ⟨am_Gin 545 (by decide +kernel) (by decide +kernel), am_Gin 546 (by decide +kernel) (by decide +kernel), am_Gin 51 (by decide +kernel) (by decide +kernel), am_Gin 547 (by decide +kernel) (by decide +kernel)⟩
theorem v_De_crossingd : q_De_crossing.1.cls ≠ "java/lang/invoke/MethodHandle" ∧ q_De_crossing.1.cls ≠ "java/lang/invoke/VarHandle" ∧ (parseMethodDescriptor q_De_crossing.1.desc).map (fun d => d.parameters.length) = some 1 := by decide +kernel
theorem v_De_simple : Cond.instanceMethod q_De_simple.1 ∈ am_Gw ∧ Cond.selects q_De_simple.1.cls q_De_simple.1 q_De_simple.1 ∈ am_Gw ∧ Cond.initialized q_De_simple.1.cls ∈ am_Gw ∧ Cond.code q_De_simple.1 q_De_simple.2.1 q_De_simple.2.2.1 q_De_simple.2.2.2.1 ∈ am_Gw := ⟨am_Gin 549 (by decide +kernel) (by decide +kernel), am_Gin 550 (by decide +kernel) (by decide +kernel), am_Gin 51 (by decide +kernel) (by decide +kernel), am_Gin 551 (by decide +kernel) (by decide +kernel)⟩
theorem v_De_simpled : q_De_simple.1.cls ≠ "java/lang/invoke/MethodHandle" ∧ q_De_simple.1.cls ≠ "java/lang/invoke/VarHandle" ∧ (parseMethodDescriptor q_De_simple.1.desc).map (fun d => d.parameters.length) = some 0 := by decide +kernel
theorem v_De_round : Cond.instanceMethod q_De_round.1 ∈ am_Gw ∧ Cond.selects q_De_round.1.cls q_De_round.1 q_De_round.1 ∈ am_Gw ∧ Cond.initialized q_De_round.1.cls ∈ am_Gw ∧ Cond.code q_De_round.1 q_De_round.2.1 q_De_round.2.2.1 q_De_round.2.2.2.1 ∈ am_Gw := ⟨am_Gin 557 (by decide +kernel) (by decide +kernel), am_Gin 558 (by decide +kernel) (by decide +kernel), am_Gin 51 (by decide +kernel) (by decide +kernel), am_Gin 559 (by decide +kernel) (by decide +kernel)⟩
theorem v_De_roundd : q_De_round.1.cls ≠ "java/lang/invoke/MethodHandle" ∧ q_De_round.1.cls ≠ "java/lang/invoke/VarHandle" ∧ (parseMethodDescriptor q_De_round.1.desc).map (fun d => d.parameters.length) = some 0 := by decide +kernel
theorem v_De_triangle : Cond.instanceMethod q_De_triangle.1 ∈ am_Gw ∧ Cond.selects q_De_triangle.1.cls q_De_triangle.1 q_De_triangle.1 ∈ am_Gw ∧ Cond.initialized q_De_triangle.1.cls ∈ am_Gw ∧ Cond.code q_De_triangle.1 q_De_triangle.2.1 q_De_triangle.2.2.1 q_De_triangle.2.2.2.1 ∈ am_Gw := ⟨am_Gin 570 (by decide +kernel) (by decide +kernel), am_Gin 571 (by decide +kernel) (by decide +kernel), am_Gin 51 (by decide +kernel) (by decide +kernel), am_Gin 572 (by decide +kernel) (by decide +kernel)⟩
theorem v_De_triangled : q_De_triangle.1.cls ≠ "java/lang/invoke/MethodHandle" ∧ q_De_triangle.1.cls ≠ "java/lang/invoke/VarHandle" ∧ (parseMethodDescriptor q_De_triangle.1.desc).map (fun d => d.parameters.length) = some 1 := by decide +kernel
theorem v_De_check : Cond.instanceMethod q_De_check.1 ∈ am_Gw ∧ Cond.selects q_De_check.1.cls q_De_check.1 q_De_check.1 ∈ am_Gw ∧ Cond.initialized q_De_check.1.cls ∈ am_Gw ∧ Cond.code q_De_check.1 q_De_check.2.1 q_De_check.2.2.1 q_De_check.2.2.2.1 ∈ am_Gw := ⟨am_Gin 616 (by decide +kernel) (by decide +kernel), am_Gin 617 (by decide +kernel) (by decide +kernel), am_Gin 51 (by decide +kernel) (by decide +kernel), am_Gin 618 (by decide +kernel) (by decide +kernel)⟩
theorem v_De_checkd : q_De_check.1.cls ≠ "java/lang/invoke/MethodHandle" ∧ q_De_check.1.cls ≠ "java/lang/invoke/VarHandle" ∧ (parseMethodDescriptor q_De_check.1.desc).map (fun d => d.parameters.length) = some 0 := by decide +kernel
theorem v_De_at : Cond.instanceMethod q_De_at.1 ∈ am_Gw ∧ Cond.selects q_De_at.1.cls q_De_at.1 q_De_at.1 ∈ am_Gw ∧ Cond.initialized q_De_at.1.cls ∈ am_Gw ∧ Cond.code q_De_at.1 q_De_at.2.1 q_De_at.2.2.1 q_De_at.2.2.2.1 ∈ am_Gw := ⟨am_Gin 639 (by decide +kernel) (by decide +kernel), am_Gin 640 (by decide +kernel) (by decide +kernel), am_Gin 51 (by decide +kernel) (by decide +kernel), am_Gin 641 (by decide +kernel) (by decide +kernel)⟩
theorem v_De_atd : q_De_at.1.cls ≠ "java/lang/invoke/MethodHandle" ∧ q_De_at.1.cls ≠ "java/lang/invoke/VarHandle" ∧ (parseMethodDescriptor q_De_at.1.desc).map (fun d => d.parameters.length) = some 2 := by decide +kernel
theorem v_De_distance : Cond.instanceMethod q_De_distance.1 ∈ am_Gw ∧ Cond.selects q_De_distance.1.cls q_De_distance.1 q_De_distance.1 ∈ am_Gw ∧ Cond.initialized q_De_distance.1.cls ∈ am_Gw ∧ Cond.code q_De_distance.1 q_De_distance.2.1 q_De_distance.2.2.1 q_De_distance.2.2.2.1 ∈ am_Gw := ⟨am_Gin 733 (by decide +kernel) (by decide +kernel), am_Gin 734 (by decide +kernel) (by decide +kernel), am_Gin 51 (by decide +kernel) (by decide +kernel), am_Gin 735 (by decide +kernel) (by decide +kernel)⟩
theorem v_De_distanced : q_De_distance.1.cls ≠ "java/lang/invoke/MethodHandle" ∧ q_De_distance.1.cls ≠ "java/lang/invoke/VarHandle" ∧ (parseMethodDescriptor q_De_distance.1.desc).map (fun d => d.parameters.length) = some 2 := by decide +kernel
theorem v_De_side : Cond.instanceMethod q_De_side.1 ∈ am_Gw ∧ Cond.selects q_De_side.1.cls q_De_side.1 q_De_side.1 ∈ am_Gw ∧ Cond.initialized q_De_side.1.cls ∈ am_Gw ∧ Cond.code q_De_side.1 q_De_side.2.1 q_De_side.2.2.1 q_De_side.2.2.2.1 ∈ am_Gw := ⟨am_Gin 740 (by decide +kernel) (by decide +kernel), am_Gin 741 (by decide +kernel) (by decide +kernel), am_Gin 51 (by decide +kernel) (by decide +kernel), am_Gin 742 (by decide +kernel) (by decide +kernel)⟩
theorem v_De_sided : q_De_side.1.cls ≠ "java/lang/invoke/MethodHandle" ∧ q_De_side.1.cls ≠ "java/lang/invoke/VarHandle" ∧ (parseMethodDescriptor q_De_side.1.desc).map (fun d => d.parameters.length) = some 2 := by decide +kernel
theorem v_De_where : Cond.instanceMethod q_De_where.1 ∈ am_Gw ∧ Cond.selects q_De_where.1.cls q_De_where.1 q_De_where.1 ∈ am_Gw ∧ Cond.initialized q_De_where.1.cls ∈ am_Gw ∧ Cond.code q_De_where.1 q_De_where.2.1 q_De_where.2.2.1 q_De_where.2.2.2.1 ∈ am_Gw := ⟨am_Gin 752 (by decide +kernel) (by decide +kernel), am_Gin 753 (by decide +kernel) (by decide +kernel), am_Gin 51 (by decide +kernel) (by decide +kernel), am_Gin 754 (by decide +kernel) (by decide +kernel)⟩
theorem v_De_whered : q_De_where.1.cls ≠ "java/lang/invoke/MethodHandle" ∧ q_De_where.1.cls ≠ "java/lang/invoke/VarHandle" ∧ (parseMethodDescriptor q_De_where.1.desc).map (fun d => d.parameters.length) = some 2 := by decide +kernel
theorem v_De_nearest : Cond.instanceMethod q_De_nearest.1 ∈ am_Gw ∧ Cond.selects q_De_nearest.1.cls q_De_nearest.1 q_De_nearest.1 ∈ am_Gw ∧ Cond.initialized q_De_nearest.1.cls ∈ am_Gw ∧ Cond.code q_De_nearest.1 q_De_nearest.2.1 q_De_nearest.2.2.1 q_De_nearest.2.2.2.1 ∈ am_Gw := ⟨am_Gin 768 (by decide +kernel) (by decide +kernel), am_Gin 769 (by decide +kernel) (by decide +kernel), am_Gin 51 (by decide +kernel) (by decide +kernel), am_Gin 770 (by decide +kernel) (by decide +kernel)⟩
theorem v_De_nearestd : q_De_nearest.1.cls ≠ "java/lang/invoke/MethodHandle" ∧ q_De_nearest.1.cls ≠ "java/lang/invoke/VarHandle" ∧ (parseMethodDescriptor q_De_nearest.1.desc).map (fun d => d.parameters.length) = some 2 := by decide +kernel
theorem v_De_beside : Cond.instanceMethod q_De_beside.1 ∈ am_Gw ∧ Cond.selects q_De_beside.1.cls q_De_beside.1 q_De_beside.1 ∈ am_Gw ∧ Cond.initialized q_De_beside.1.cls ∈ am_Gw ∧ Cond.code q_De_beside.1 q_De_beside.2.1 q_De_beside.2.2.1 q_De_beside.2.2.2.1 ∈ am_Gw := ⟨am_Gin 775 (by decide +kernel) (by decide +kernel), am_Gin 776 (by decide +kernel) (by decide +kernel), am_Gin 51 (by decide +kernel) (by decide +kernel), am_Gin 777 (by decide +kernel) (by decide +kernel)⟩
theorem v_De_besided : q_De_beside.1.cls ≠ "java/lang/invoke/MethodHandle" ∧ q_De_beside.1.cls ≠ "java/lang/invoke/VarHandle" ∧ (parseMethodDescriptor q_De_beside.1.desc).map (fun d => d.parameters.length) = some 3 := by decide +kernel
theorem v_De_turn : Cond.instanceMethod q_De_turn.1 ∈ am_Gw ∧ Cond.selects q_De_turn.1.cls q_De_turn.1 q_De_turn.1 ∈ am_Gw ∧ Cond.initialized q_De_turn.1.cls ∈ am_Gw ∧ Cond.code q_De_turn.1 q_De_turn.2.1 q_De_turn.2.2.1 q_De_turn.2.2.2.1 ∈ am_Gw := ⟨am_Gin 784 (by decide +kernel) (by decide +kernel), am_Gin 785 (by decide +kernel) (by decide +kernel), am_Gin 51 (by decide +kernel) (by decide +kernel), am_Gin 786 (by decide +kernel) (by decide +kernel)⟩
theorem v_De_turnd : q_De_turn.1.cls ≠ "java/lang/invoke/MethodHandle" ∧ q_De_turn.1.cls ≠ "java/lang/invoke/VarHandle" ∧ (parseMethodDescriptor q_De_turn.1.desc).map (fun d => d.parameters.length) = some 2 := by decide +kernel
theorem v_De_inside : Cond.instanceMethod q_De_inside.1 ∈ am_Gw ∧ Cond.selects q_De_inside.1.cls q_De_inside.1 q_De_inside.1 ∈ am_Gw ∧ Cond.initialized q_De_inside.1.cls ∈ am_Gw ∧ Cond.code q_De_inside.1 q_De_inside.2.1 q_De_inside.2.2.1 q_De_inside.2.2.2.1 ∈ am_Gw := ⟨am_Gin 796 (by decide +kernel) (by decide +kernel), am_Gin 797 (by decide +kernel) (by decide +kernel), am_Gin 51 (by decide +kernel) (by decide +kernel), am_Gin 798 (by decide +kernel) (by decide +kernel)⟩
theorem v_De_insided : q_De_inside.1.cls ≠ "java/lang/invoke/MethodHandle" ∧ q_De_inside.1.cls ≠ "java/lang/invoke/VarHandle" ∧ (parseMethodDescriptor q_De_inside.1.desc).map (fun d => d.parameters.length) = some 2 := by decide +kernel
theorem v_Mo_thrown : Cond.instanceMethod q_Mo_thrown.1 ∈ am_Gw ∧ Cond.selects q_Mo_thrown.1.cls q_Mo_thrown.1 q_Mo_thrown.1 ∈ am_Gw ∧ Cond.initialized q_Mo_thrown.1.cls ∈ am_Gw ∧ Cond.code q_Mo_thrown.1 q_Mo_thrown.2.1 q_Mo_thrown.2.2.1 q_Mo_thrown.2.2.2.1 ∈ am_Gw := ⟨am_Gin 855 (by decide +kernel) (by decide +kernel), am_Gin 856 (by decide +kernel) (by decide +kernel), am_Gin 60 (by decide +kernel) (by decide +kernel), am_Gin 857 (by decide +kernel) (by decide +kernel)⟩
theorem v_Mo_thrownd : q_Mo_thrown.1.cls ≠ "java/lang/invoke/MethodHandle" ∧ q_Mo_thrown.1.cls ≠ "java/lang/invoke/VarHandle" ∧ (parseMethodDescriptor q_Mo_thrown.1.desc).map (fun d => d.parameters.length) = some 0 := by decide +kernel
theorem v_Mo_add : Cond.instanceMethod q_Mo_add.1 ∈ am_Gw ∧ Cond.selects q_Mo_add.1.cls q_Mo_add.1 q_Mo_add.1 ∈ am_Gw ∧ Cond.initialized q_Mo_add.1.cls ∈ am_Gw ∧ Cond.code q_Mo_add.1 q_Mo_add.2.1 q_Mo_add.2.2.1 q_Mo_add.2.2.2.1 ∈ am_Gw := ⟨am_Gin 859 (by decide +kernel) (by decide +kernel), am_Gin 860 (by decide +kernel) (by decide +kernel), am_Gin 60 (by decide +kernel) (by decide +kernel), am_Gin 861 (by decide +kernel) (by decide +kernel)⟩
theorem v_Mo_addd : q_Mo_add.1.cls ≠ "java/lang/invoke/MethodHandle" ∧ q_Mo_add.1.cls ≠ "java/lang/invoke/VarHandle" ∧ (parseMethodDescriptor q_Mo_add.1.desc).map (fun d => d.parameters.length) = some 2 := by decide +kernel
theorem v_Mo_clear : Cond.instanceMethod q_Mo_clear.1 ∈ am_Gw ∧ Cond.selects q_Mo_clear.1.cls q_Mo_clear.1 q_Mo_clear.1 ∈ am_Gw ∧ Cond.initialized q_Mo_clear.1.cls ∈ am_Gw ∧ Cond.code q_Mo_clear.1 q_Mo_clear.2.1 q_Mo_clear.2.2.1 q_Mo_clear.2.2.2.1 ∈ am_Gw := ⟨am_Gin 868 (by decide +kernel) (by decide +kernel), am_Gin 869 (by decide +kernel) (by decide +kernel), am_Gin 60 (by decide +kernel) (by decide +kernel), am_Gin 870 (by decide +kernel) (by decide +kernel)⟩
theorem v_Mo_cleard : q_Mo_clear.1.cls ≠ "java/lang/invoke/MethodHandle" ∧ q_Mo_clear.1.cls ≠ "java/lang/invoke/VarHandle" ∧ (parseMethodDescriptor q_Mo_clear.1.desc).map (fun d => d.parameters.length) = some 0 := by decide +kernel
theorem v_Mo_count : Cond.instanceMethod q_Mo_count.1 ∈ am_Gw ∧ Cond.selects q_Mo_count.1.cls q_Mo_count.1 q_Mo_count.1 ∈ am_Gw ∧ Cond.initialized q_Mo_count.1.cls ∈ am_Gw ∧ Cond.code q_Mo_count.1 q_Mo_count.2.1 q_Mo_count.2.2.1 q_Mo_count.2.2.2.1 ∈ am_Gw := ⟨am_Gin 872 (by decide +kernel) (by decide +kernel), am_Gin 873 (by decide +kernel) (by decide +kernel), am_Gin 60 (by decide +kernel) (by decide +kernel), am_Gin 874 (by decide +kernel) (by decide +kernel)⟩
theorem v_Mo_countd : q_Mo_count.1.cls ≠ "java/lang/invoke/MethodHandle" ∧ q_Mo_count.1.cls ≠ "java/lang/invoke/VarHandle" ∧ (parseMethodDescriptor q_Mo_count.1.desc).map (fun d => d.parameters.length) = some 1 := by decide +kernel
theorem v_Mo_at : Cond.instanceMethod q_Mo_at.1 ∈ am_Gw ∧ Cond.selects q_Mo_at.1.cls q_Mo_at.1 q_Mo_at.1 ∈ am_Gw ∧ Cond.initialized q_Mo_at.1.cls ∈ am_Gw ∧ Cond.code q_Mo_at.1 q_Mo_at.2.1 q_Mo_at.2.2.1 q_Mo_at.2.2.2.1 ∈ am_Gw := ⟨am_Gin 932 (by decide +kernel) (by decide +kernel), am_Gin 933 (by decide +kernel) (by decide +kernel), am_Gin 60 (by decide +kernel) (by decide +kernel), am_Gin 934 (by decide +kernel) (by decide +kernel)⟩
theorem v_Mo_atd : q_Mo_at.1.cls ≠ "java/lang/invoke/MethodHandle" ∧ q_Mo_at.1.cls ≠ "java/lang/invoke/VarHandle" ∧ (parseMethodDescriptor q_Mo_at.1.desc).map (fun d => d.parameters.length) = some 2 := by decide +kernel
theorem v_Mo_corner : Cond.instanceMethod q_Mo_corner.1 ∈ am_Gw ∧ Cond.selects q_Mo_corner.1.cls q_Mo_corner.1 q_Mo_corner.1 ∈ am_Gw ∧ Cond.initialized q_Mo_corner.1.cls ∈ am_Gw ∧ Cond.code q_Mo_corner.1 q_Mo_corner.2.1 q_Mo_corner.2.2.1 q_Mo_corner.2.2.2.1 ∈ am_Gw := ⟨am_Gin 940 (by decide +kernel) (by decide +kernel), am_Gin 941 (by decide +kernel) (by decide +kernel), am_Gin 60 (by decide +kernel) (by decide +kernel), am_Gin 942 (by decide +kernel) (by decide +kernel)⟩
theorem v_Mo_cornerd : q_Mo_corner.1.cls ≠ "java/lang/invoke/MethodHandle" ∧ q_Mo_corner.1.cls ≠ "java/lang/invoke/VarHandle" ∧ (parseMethodDescriptor q_Mo_corner.1.desc).map (fun d => d.parameters.length) = some 1 := by decide +kernel
theorem v_Mo_area : Cond.instanceMethod q_Mo_area.1 ∈ am_Gw ∧ Cond.selects q_Mo_area.1.cls q_Mo_area.1 q_Mo_area.1 ∈ am_Gw ∧ Cond.initialized q_Mo_area.1.cls ∈ am_Gw ∧ Cond.code q_Mo_area.1 q_Mo_area.2.1 q_Mo_area.2.2.1 q_Mo_area.2.2.2.1 ∈ am_Gw := ⟨am_Gin 944 (by decide +kernel) (by decide +kernel), am_Gin 945 (by decide +kernel) (by decide +kernel), am_Gin 60 (by decide +kernel) (by decide +kernel), am_Gin 946 (by decide +kernel) (by decide +kernel)⟩
theorem v_Mo_aread : q_Mo_area.1.cls ≠ "java/lang/invoke/MethodHandle" ∧ q_Mo_area.1.cls ≠ "java/lang/invoke/VarHandle" ∧ (parseMethodDescriptor q_Mo_area.1.desc).map (fun d => d.parameters.length) = some 0 := by decide +kernel
theorem v_Mo_layer : Cond.instanceMethod q_Mo_layer.1 ∈ am_Gw ∧ Cond.selects q_Mo_layer.1.cls q_Mo_layer.1 q_Mo_layer.1 ∈ am_Gw ∧ Cond.initialized q_Mo_layer.1.cls ∈ am_Gw ∧ Cond.code q_Mo_layer.1 q_Mo_layer.2.1 q_Mo_layer.2.2.1 q_Mo_layer.2.2.2.1 ∈ am_Gw := ⟨am_Gin 948 (by decide +kernel) (by decide +kernel), am_Gin 949 (by decide +kernel) (by decide +kernel), am_Gin 60 (by decide +kernel) (by decide +kernel), am_Gin 950 (by decide +kernel) (by decide +kernel)⟩
theorem v_Mo_layerd : q_Mo_layer.1.cls ≠ "java/lang/invoke/MethodHandle" ∧ q_Mo_layer.1.cls ≠ "java/lang/invoke/VarHandle" ∧ (parseMethodDescriptor q_Mo_layer.1.desc).map (fun d => d.parameters.length) = some 1 := by decide +kernel
theorem v_Mo_pair : Cond.instanceMethod q_Mo_pair.1 ∈ am_Gw ∧ Cond.selects q_Mo_pair.1.cls q_Mo_pair.1 q_Mo_pair.1 ∈ am_Gw ∧ Cond.initialized q_Mo_pair.1.cls ∈ am_Gw ∧ Cond.code q_Mo_pair.1 q_Mo_pair.2.1 q_Mo_pair.2.2.1 q_Mo_pair.2.2.2.1 ∈ am_Gw := ⟨am_Gin 952 (by decide +kernel) (by decide +kernel), am_Gin 953 (by decide +kernel) (by decide +kernel), am_Gin 60 (by decide +kernel) (by decide +kernel), am_Gin 954 (by decide +kernel) (by decide +kernel)⟩
theorem v_Mo_paird : q_Mo_pair.1.cls ≠ "java/lang/invoke/MethodHandle" ∧ q_Mo_pair.1.cls ≠ "java/lang/invoke/VarHandle" ∧ (parseMethodDescriptor q_Mo_pair.1.desc).map (fun d => d.parameters.length) = some 1 := by decide +kernel
theorem v_Mo_distance : Cond.instanceMethod q_Mo_distance.1 ∈ am_Gw ∧ Cond.selects q_Mo_distance.1.cls q_Mo_distance.1 q_Mo_distance.1 ∈ am_Gw ∧ Cond.initialized q_Mo_distance.1.cls ∈ am_Gw ∧ Cond.code q_Mo_distance.1 q_Mo_distance.2.1 q_Mo_distance.2.2.1 q_Mo_distance.2.2.2.1 ∈ am_Gw := ⟨am_Gin 956 (by decide +kernel) (by decide +kernel), am_Gin 957 (by decide +kernel) (by decide +kernel), am_Gin 60 (by decide +kernel) (by decide +kernel), am_Gin 958 (by decide +kernel) (by decide +kernel)⟩
theorem v_Mo_distanced : q_Mo_distance.1.cls ≠ "java/lang/invoke/MethodHandle" ∧ q_Mo_distance.1.cls ≠ "java/lang/invoke/VarHandle" ∧ (parseMethodDescriptor q_Mo_distance.1.desc).map (fun d => d.parameters.length) = some 2 := by decide +kernel
theorem v_Mo_best : Cond.instanceMethod q_Mo_best.1 ∈ am_Gw ∧ Cond.selects q_Mo_best.1.cls q_Mo_best.1 q_Mo_best.1 ∈ am_Gw ∧ Cond.initialized q_Mo_best.1.cls ∈ am_Gw ∧ Cond.code q_Mo_best.1 q_Mo_best.2.1 q_Mo_best.2.2.1 q_Mo_best.2.2.2.1 ∈ am_Gw := ⟨am_Gin 960 (by decide +kernel) (by decide +kernel), am_Gin 961 (by decide +kernel) (by decide +kernel), am_Gin 60 (by decide +kernel) (by decide +kernel), am_Gin 962 (by decide +kernel) (by decide +kernel)⟩
theorem v_Mo_bestd : q_Mo_best.1.cls ≠ "java/lang/invoke/MethodHandle" ∧ q_Mo_best.1.cls ≠ "java/lang/invoke/VarHandle" ∧ (parseMethodDescriptor q_Mo_best.1.desc).map (fun d => d.parameters.length) = some 1 := by decide +kernel
theorem v_Mo_side : Cond.instanceMethod q_Mo_side.1 ∈ am_Gw ∧ Cond.selects q_Mo_side.1.cls q_Mo_side.1 q_Mo_side.1 ∈ am_Gw ∧ Cond.initialized q_Mo_side.1.cls ∈ am_Gw ∧ Cond.code q_Mo_side.1 q_Mo_side.2.1 q_Mo_side.2.2.1 q_Mo_side.2.2.2.1 ∈ am_Gw := ⟨am_Gin 989 (by decide +kernel) (by decide +kernel), am_Gin 990 (by decide +kernel) (by decide +kernel), am_Gin 60 (by decide +kernel) (by decide +kernel), am_Gin 991 (by decide +kernel) (by decide +kernel)⟩
theorem v_Mo_sided : q_Mo_side.1.cls ≠ "java/lang/invoke/MethodHandle" ∧ q_Mo_side.1.cls ≠ "java/lang/invoke/VarHandle" ∧ (parseMethodDescriptor q_Mo_side.1.desc).map (fun d => d.parameters.length) = some 2 := by decide +kernel
theorem v_Mo_where : Cond.instanceMethod q_Mo_where.1 ∈ am_Gw ∧ Cond.selects q_Mo_where.1.cls q_Mo_where.1 q_Mo_where.1 ∈ am_Gw ∧ Cond.initialized q_Mo_where.1.cls ∈ am_Gw ∧ Cond.code q_Mo_where.1 q_Mo_where.2.1 q_Mo_where.2.2.1 q_Mo_where.2.2.2.1 ∈ am_Gw := ⟨am_Gin 993 (by decide +kernel) (by decide +kernel), am_Gin 994 (by decide +kernel) (by decide +kernel), am_Gin 60 (by decide +kernel) (by decide +kernel), am_Gin 995 (by decide +kernel) (by decide +kernel)⟩
theorem v_Mo_whered : q_Mo_where.1.cls ≠ "java/lang/invoke/MethodHandle" ∧ q_Mo_where.1.cls ≠ "java/lang/invoke/VarHandle" ∧ (parseMethodDescriptor q_Mo_where.1.desc).map (fun d => d.parameters.length) = some 2 := by decide +kernel
theorem v_Mo_nearest : Cond.instanceMethod q_Mo_nearest.1 ∈ am_Gw ∧ Cond.selects q_Mo_nearest.1.cls q_Mo_nearest.1 q_Mo_nearest.1 ∈ am_Gw ∧ Cond.initialized q_Mo_nearest.1.cls ∈ am_Gw ∧ Cond.code q_Mo_nearest.1 q_Mo_nearest.2.1 q_Mo_nearest.2.2.1 q_Mo_nearest.2.2.2.1 ∈ am_Gw := ⟨am_Gin 997 (by decide +kernel) (by decide +kernel), am_Gin 998 (by decide +kernel) (by decide +kernel), am_Gin 60 (by decide +kernel) (by decide +kernel), am_Gin 999 (by decide +kernel) (by decide +kernel)⟩
theorem v_Mo_nearestd : q_Mo_nearest.1.cls ≠ "java/lang/invoke/MethodHandle" ∧ q_Mo_nearest.1.cls ≠ "java/lang/invoke/VarHandle" ∧ (parseMethodDescriptor q_Mo_nearest.1.desc).map (fun d => d.parameters.length) = some 2 := by decide +kernel
theorem v_Mo_beside : Cond.instanceMethod q_Mo_beside.1 ∈ am_Gw ∧ Cond.selects q_Mo_beside.1.cls q_Mo_beside.1 q_Mo_beside.1 ∈ am_Gw ∧ Cond.initialized q_Mo_beside.1.cls ∈ am_Gw ∧ Cond.code q_Mo_beside.1 q_Mo_beside.2.1 q_Mo_beside.2.2.1 q_Mo_beside.2.2.2.1 ∈ am_Gw := ⟨am_Gin 1001 (by decide +kernel) (by decide +kernel), am_Gin 1002 (by decide +kernel) (by decide +kernel), am_Gin 60 (by decide +kernel) (by decide +kernel), am_Gin 1003 (by decide +kernel) (by decide +kernel)⟩
theorem v_Mo_besided : q_Mo_beside.1.cls ≠ "java/lang/invoke/MethodHandle" ∧ q_Mo_beside.1.cls ≠ "java/lang/invoke/VarHandle" ∧ (parseMethodDescriptor q_Mo_beside.1.desc).map (fun d => d.parameters.length) = some 3 := by decide +kernel
theorem v_Mo_go : Cond.instanceMethod q_Mo_go.1 ∈ am_Gw ∧ Cond.selects q_Mo_go.1.cls q_Mo_go.1 q_Mo_go.1 ∈ am_Gw ∧ Cond.initialized q_Mo_go.1.cls ∈ am_Gw ∧ Cond.code q_Mo_go.1 q_Mo_go.2.1 q_Mo_go.2.2.1 q_Mo_go.2.2.2.1 ∈ am_Gw := ⟨am_Gin 1008 (by decide +kernel) (by decide +kernel), am_Gin 1009 (by decide +kernel) (by decide +kernel), am_Gin 60 (by decide +kernel) (by decide +kernel), am_Gin 1010 (by decide +kernel) (by decide +kernel)⟩
theorem v_Mo_god : q_Mo_go.1.cls ≠ "java/lang/invoke/MethodHandle" ∧ q_Mo_go.1.cls ≠ "java/lang/invoke/VarHandle" ∧ (parseMethodDescriptor q_Mo_go.1.desc).map (fun d => d.parameters.length) = some 1 := by decide +kernel
theorem v_Mo_stop : Cond.instanceMethod q_Mo_stop.1 ∈ am_Gw ∧ Cond.selects q_Mo_stop.1.cls q_Mo_stop.1 q_Mo_stop.1 ∈ am_Gw ∧ Cond.initialized q_Mo_stop.1.cls ∈ am_Gw ∧ Cond.code q_Mo_stop.1 q_Mo_stop.2.1 q_Mo_stop.2.2.1 q_Mo_stop.2.2.2.1 ∈ am_Gw := ⟨am_Gin 1012 (by decide +kernel) (by decide +kernel), am_Gin 1013 (by decide +kernel) (by decide +kernel), am_Gin 60 (by decide +kernel) (by decide +kernel), am_Gin 1014 (by decide +kernel) (by decide +kernel)⟩
theorem v_Mo_stopd : q_Mo_stop.1.cls ≠ "java/lang/invoke/MethodHandle" ∧ q_Mo_stop.1.cls ≠ "java/lang/invoke/VarHandle" ∧ (parseMethodDescriptor q_Mo_stop.1.desc).map (fun d => d.parameters.length) = some 0 := by decide +kernel
theorem v_Mo_place : Cond.instanceMethod q_Mo_place.1 ∈ am_Gw ∧ Cond.selects q_Mo_place.1.cls q_Mo_place.1 q_Mo_place.1 ∈ am_Gw ∧ Cond.initialized q_Mo_place.1.cls ∈ am_Gw ∧ Cond.code q_Mo_place.1 q_Mo_place.2.1 q_Mo_place.2.2.1 q_Mo_place.2.2.2.1 ∈ am_Gw := ⟨am_Gin 1016 (by decide +kernel) (by decide +kernel), am_Gin 1017 (by decide +kernel) (by decide +kernel), am_Gin 60 (by decide +kernel) (by decide +kernel), am_Gin 1018 (by decide +kernel) (by decide +kernel)⟩
theorem v_Mo_placed : q_Mo_place.1.cls ≠ "java/lang/invoke/MethodHandle" ∧ q_Mo_place.1.cls ≠ "java/lang/invoke/VarHandle" ∧ (parseMethodDescriptor q_Mo_place.1.desc).map (fun d => d.parameters.length) = some 1 := by decide +kernel
theorem v_Mo_turn : Cond.instanceMethod q_Mo_turn.1 ∈ am_Gw ∧ Cond.selects q_Mo_turn.1.cls q_Mo_turn.1 q_Mo_turn.1 ∈ am_Gw ∧ Cond.initialized q_Mo_turn.1.cls ∈ am_Gw ∧ Cond.code q_Mo_turn.1 q_Mo_turn.2.1 q_Mo_turn.2.2.1 q_Mo_turn.2.2.2.1 ∈ am_Gw := ⟨am_Gin 1020 (by decide +kernel) (by decide +kernel), am_Gin 1021 (by decide +kernel) (by decide +kernel), am_Gin 60 (by decide +kernel) (by decide +kernel), am_Gin 1022 (by decide +kernel) (by decide +kernel)⟩
theorem v_Mo_turnd : q_Mo_turn.1.cls ≠ "java/lang/invoke/MethodHandle" ∧ q_Mo_turn.1.cls ≠ "java/lang/invoke/VarHandle" ∧ (parseMethodDescriptor q_Mo_turn.1.desc).map (fun d => d.parameters.length) = some 2 := by decide +kernel
theorem v_Mo_crossings : Cond.instanceMethod q_Mo_crossings.1 ∈ am_Gw ∧ Cond.selects q_Mo_crossings.1.cls q_Mo_crossings.1 q_Mo_crossings.1 ∈ am_Gw ∧ Cond.initialized q_Mo_crossings.1.cls ∈ am_Gw ∧ Cond.code q_Mo_crossings.1 q_Mo_crossings.2.1 q_Mo_crossings.2.2.1 q_Mo_crossings.2.2.2.1 ∈ am_Gw := ⟨am_Gin 1024 (by decide +kernel) (by decide +kernel), am_Gin 1025 (by decide +kernel) (by decide +kernel), am_Gin 60 (by decide +kernel) (by decide +kernel), am_Gin 1026 (by decide +kernel) (by decide +kernel)⟩
theorem v_Mo_crossingsd : q_Mo_crossings.1.cls ≠ "java/lang/invoke/MethodHandle" ∧ q_Mo_crossings.1.cls ≠ "java/lang/invoke/VarHandle" ∧ (parseMethodDescriptor q_Mo_crossings.1.desc).map (fun d => d.parameters.length) = some 0 := by decide +kernel
theorem v_Mo_crossing : Cond.instanceMethod q_Mo_crossing.1 ∈ am_Gw ∧ Cond.selects q_Mo_crossing.1.cls q_Mo_crossing.1 q_Mo_crossing.1 ∈ am_Gw ∧ Cond.initialized q_Mo_crossing.1.cls ∈ am_Gw ∧ Cond.code q_Mo_crossing.1 q_Mo_crossing.2.1 q_Mo_crossing.2.2.1 q_Mo_crossing.2.2.2.1 ∈ am_Gw := ⟨am_Gin 1047 (by decide +kernel) (by decide +kernel), am_Gin 1048 (by decide +kernel) (by decide +kernel), am_Gin 60 (by decide +kernel) (by decide +kernel), am_Gin 1049 (by decide +kernel) (by decide +kernel)⟩
theorem v_Mo_crossingd : q_Mo_crossing.1.cls ≠ "java/lang/invoke/MethodHandle" ∧ q_Mo_crossing.1.cls ≠ "java/lang/invoke/VarHandle" ∧ (parseMethodDescriptor q_Mo_crossing.1.desc).map (fun d => d.parameters.length) = some 1 := by decide +kernel
theorem v_Mo_simple : Cond.instanceMethod q_Mo_simple.1 ∈ am_Gw ∧ Cond.selects q_Mo_simple.1.cls q_Mo_simple.1 q_Mo_simple.1 ∈ am_Gw ∧ Cond.initialized q_Mo_simple.1.cls ∈ am_Gw ∧ Cond.code q_Mo_simple.1 q_Mo_simple.2.1 q_Mo_simple.2.2.1 q_Mo_simple.2.2.2.1 ∈ am_Gw := ⟨am_Gin 1051 (by decide +kernel) (by decide +kernel), am_Gin 1052 (by decide +kernel) (by decide +kernel), am_Gin 60 (by decide +kernel) (by decide +kernel), am_Gin 1053 (by decide +kernel) (by decide +kernel)⟩
theorem v_Mo_simpled : q_Mo_simple.1.cls ≠ "java/lang/invoke/MethodHandle" ∧ q_Mo_simple.1.cls ≠ "java/lang/invoke/VarHandle" ∧ (parseMethodDescriptor q_Mo_simple.1.desc).map (fun d => d.parameters.length) = some 0 := by decide +kernel
theorem v_Mo_round : Cond.instanceMethod q_Mo_round.1 ∈ am_Gw ∧ Cond.selects q_Mo_round.1.cls q_Mo_round.1 q_Mo_round.1 ∈ am_Gw ∧ Cond.initialized q_Mo_round.1.cls ∈ am_Gw ∧ Cond.code q_Mo_round.1 q_Mo_round.2.1 q_Mo_round.2.2.1 q_Mo_round.2.2.2.1 ∈ am_Gw := ⟨am_Gin 1059 (by decide +kernel) (by decide +kernel), am_Gin 1060 (by decide +kernel) (by decide +kernel), am_Gin 60 (by decide +kernel) (by decide +kernel), am_Gin 1061 (by decide +kernel) (by decide +kernel)⟩
theorem v_Mo_roundd : q_Mo_round.1.cls ≠ "java/lang/invoke/MethodHandle" ∧ q_Mo_round.1.cls ≠ "java/lang/invoke/VarHandle" ∧ (parseMethodDescriptor q_Mo_round.1.desc).map (fun d => d.parameters.length) = some 0 := by decide +kernel
theorem v_Mo_inside : Cond.instanceMethod q_Mo_inside.1 ∈ am_Gw ∧ Cond.selects q_Mo_inside.1.cls q_Mo_inside.1 q_Mo_inside.1 ∈ am_Gw ∧ Cond.initialized q_Mo_inside.1.cls ∈ am_Gw ∧ Cond.code q_Mo_inside.1 q_Mo_inside.2.1 q_Mo_inside.2.2.1 q_Mo_inside.2.2.2.1 ∈ am_Gw := ⟨am_Gin 1067 (by decide +kernel) (by decide +kernel), am_Gin 1068 (by decide +kernel) (by decide +kernel), am_Gin 60 (by decide +kernel) (by decide +kernel), am_Gin 1069 (by decide +kernel) (by decide +kernel)⟩
theorem v_Mo_insided : q_Mo_inside.1.cls ≠ "java/lang/invoke/MethodHandle" ∧ q_Mo_inside.1.cls ≠ "java/lang/invoke/VarHandle" ∧ (parseMethodDescriptor q_Mo_inside.1.desc).map (fun d => d.parameters.length) = some 2 := by decide +kernel
theorem v_Mo_triangle : Cond.instanceMethod q_Mo_triangle.1 ∈ am_Gw ∧ Cond.selects q_Mo_triangle.1.cls q_Mo_triangle.1 q_Mo_triangle.1 ∈ am_Gw ∧ Cond.initialized q_Mo_triangle.1.cls ∈ am_Gw ∧ Cond.code q_Mo_triangle.1 q_Mo_triangle.2.1 q_Mo_triangle.2.2.1 q_Mo_triangle.2.2.2.1 ∈ am_Gw := ⟨am_Gin 1071 (by decide +kernel) (by decide +kernel), am_Gin 1072 (by decide +kernel) (by decide +kernel), am_Gin 60 (by decide +kernel) (by decide +kernel), am_Gin 1073 (by decide +kernel) (by decide +kernel)⟩
theorem v_Mo_triangled : q_Mo_triangle.1.cls ≠ "java/lang/invoke/MethodHandle" ∧ q_Mo_triangle.1.cls ≠ "java/lang/invoke/VarHandle" ∧ (parseMethodDescriptor q_Mo_triangle.1.desc).map (fun d => d.parameters.length) = some 1 := by decide +kernel
theorem v_Mo_check : Cond.instanceMethod q_Mo_check.1 ∈ am_Gw ∧ Cond.selects q_Mo_check.1.cls q_Mo_check.1 q_Mo_check.1 ∈ am_Gw ∧ Cond.initialized q_Mo_check.1.cls ∈ am_Gw ∧ Cond.code q_Mo_check.1 q_Mo_check.2.1 q_Mo_check.2.2.1 q_Mo_check.2.2.2.1 ∈ am_Gw := ⟨am_Gin 1083 (by decide +kernel) (by decide +kernel), am_Gin 1084 (by decide +kernel) (by decide +kernel), am_Gin 60 (by decide +kernel) (by decide +kernel), am_Gin 1085 (by decide +kernel) (by decide +kernel)⟩
theorem v_Mo_checkd : q_Mo_check.1.cls ≠ "java/lang/invoke/MethodHandle" ∧ q_Mo_check.1.cls ≠ "java/lang/invoke/VarHandle" ∧ (parseMethodDescriptor q_Mo_check.1.desc).map (fun d => d.parameters.length) = some 0 := by decide +kernel
abbrev HM : Type := MethodName × ByteArray × Nat × List (Nat × Nat × Nat × Nat)
abbrev HM.ws (q : HM) : List Cond := Cond.codeWith q.1 q.2.1 q.2.2.1 (some .int) q.2.2.2 :: am_Gw
abbrev hp_R : Room := { frames := 8, cells := 1, slots := 6, locals := 170 }
/-- a helper's contract -/
def hp_G (E : AE) (l : Launch) (s0 : State) (q : HM) (as : List AV) (h : AH) (Q : AR) : Prop :=
  ∀ sz : Nat, Met l q.1 (HM.ws q) hp_R (tm_Pc s0 E sz as h) (am_Q am_Y am_cl E (am_A am_Y E sz) Q) 1 6 (am_A am_Y E sz)
def hp_C (E : AE) (s0 : State) (q : HM) (p : Program) (s : State) (m : MethodId) (args : Array Value) (meth : Method) (c : Code) : Prop :=
  am_C am_Y am_cl E (am_A am_Y E s.heap.size) p s m args meth c q.2.2.1 q.2.1 "PointDeskLaw" (HM.ws q) ∧ tx_s s0 s ∧ c.exceptionTable.toList.map (fun h => (h.startPc, h.endPc, h.handlerPc, h.catchType)) = q.2.2.2 ∧ meth.sig.returnType = some .int
def hp_T (q : HM) (tbl : AT) : Prop :=
  ∀ (E : AE) (A : Nat → Prop) (p : Program) (l : Launch) (e : Env) (s : State) (m : MethodId) (args : Array Value) (below : List Frame) (meth : Method) (c : Code) (Rt : AR),
    am_C am_Y am_cl E A p s m args meth c q.2.2.1 q.2.1 "PointDeskLaw" (HM.ws q) → meth.sig.returnType = some .int →
    ∀ r ∈ tbl, am_sd (am_g E l) (am_J am_Y am_cl E A p l e hp_R s m args below meth c q.2.2.1 (MQ below (am_Q am_Y am_cl E A Rt) args s 1 6 A)) Rt r.2 r.1
theorem hp_ret_ok {E : AE} {A : Nat → Prop} {p : Program} {l : Launch} {e : Env} {R : Room} {s : State} {m : MethodId} {args : Array Value} {below : List Frame} {meth : Method} {c : Code} {nL : Nat} {cc : ByteArray} {own : String} {Ts : List Cond} {G : AG} {Rt : AR} {pc : Nat} (X : am_C am_Y am_cl E A p s m args meth c nL cc own Ts) (hr : meth.sig.returnType = some .int) (hd : decode cc pc = .ok (.ireturn, 1)) : am_sd G (am_J am_Y am_cl E A p l e R s m args below meth c nL (MQ below (am_Q am_Y am_cl E A Rt) args s 1 6 A)) Rt am_ret pc := by
  intro L S h hk H locs ls hP hD hS hl
  unfold am_ret at hk
  split at hk
  · rename_i v
    exact W.widen (Nat.zero_le 1) (Nat.zero_le 6) (W.iret X.1 X.2.1 hr (fun t ht hW => ⟨⟨some (.inl v), h, rfl, hk, by rw [ht]; exact hP, va_K.moved hW.alike X.2.2.2.2.2.1, hD⟩, hS.F ht⟩) hS.2.2 hd X.2.2.2.2.2.2.2.2)
  · exact hk.elim
theorem hp_met {E : AE} {l : Launch} {s0 : State} {q : HM} {tbl : AT} (hT : hp_T q tbl) {as : List AV} {h : AH} {Q : AR} (hpl : q.1.cls = "PointDeskLaw") (haw : am_aw as ≤ q.2.2.1) (K : AJ)
    (hK : ∀ (p : Program) (e : Env) (s : State) (m : MethodId) (args : Array Value) (below : List Frame) (meth : Method) (c : Code), hp_C E s0 q p s m args meth c → ∀ pc L S h, K pc L S h → am_J am_Y am_cl E (am_A am_Y E s.heap.size) p l e hp_R s m args below meth c q.2.2.1 (MQ below (am_Q am_Y am_cl E (am_A am_Y E s.heap.size) Q) args s 1 6 (am_A am_Y E s.heap.size)) pc L S h)
    (hbody : ∀ J : AJ, (∀ pc L S h, am_s tbl (am_g E l) J Q pc L S h → J pc L S h) → (∀ pc L S h, K pc L S h → J pc L S h) → J 0 (am_l0 q.2.2.1 as) [] h) : hp_G E l s0 q as h Q := by
  intro sz
  refine va_MetW (cc := q.2.1) (maxL := q.2.2.1) (ret := some .int) (hh := q.2.2.2) (by rw [hpl]; decide) rfl ?_
  intro p e s m args below meth c s₁ B hml hv
  obtain ⟨⟨rfl, hsz, hP, hKv, hD0⟩, htx⟩ := hv
  subst hsz
  have hD := am_D_self (sz := s.heap.size) hD0
  have hts := atoms_spec (ws := HM.ws q) B.pre
  have X : am_C am_Y am_cl E (am_A am_Y E s.heap.size) p s m (as.map (am_v E)).toArray meth c q.2.2.1 q.2.1 "PointDeskLaw" (HM.ws q) :=
    ⟨B.exec, B.bytes, hml, by rw [← hpl]; exact findClass_of_methodNamed B.named, hts, hKv, fun q hq => .inr hq, fun k hk => .inl ⟨k, hk, rfl⟩, B.notSynchronized⟩
  obtain ⟨m', meth', c', h1, h2, h3, -, -, h4, -⟩ := Cond.codeWith_spec (hts _ List.mem_cons_self)
  cases B.named.symm.trans h1
  cases B.method.symm.trans h2
  have hcc : c' = c := by
    have h5 : s₁.code? m = some c := B.here.code
    rw [State.code?_eq, B.method₁] at h5
    exact Option.some.inj (h3.symm.trans h5)
  subst hcc
  have hl := lv_entry (as.map (am_v E)) (n := q.2.2.1) (by rw [am_aw_ok]; exact haw)
  rw [lg_entry_eq]
  refine hbody _ (fun pc L S h hs => ?_) (hK p e s m _ below meth c' ⟨X, htx, h4, B.returns⟩) s.heap [] _ hP hD va_S.rf ⟨hl.1, hl.2.1, fun q hq => hl.2.2 q (am_l0_mem E as _ 0 q hq)⟩
  unfold am_s at hs
  split at hs
  · rename_i f hf
    have hmem : (pc, f) ∈ tbl := by
      obtain ⟨l1, l2, e1, -⟩ := List.lookup_eq_some_iff.mp hf
      rw [e1]; simp
    exact hT E _ p l e s m _ below meth c' Q X B.returns (pc, f) hmem L S h hs
  · exact hs.elim
abbrev q_L_at : HM := (⟨"PointDeskLaw", "at", "(LPointDesk;II[J)I"⟩, method_3_code, 5, [(0, 10, 13, 13), (0, 10, 17, 15)])
theorem c_L_at : Cond.codeWith q_L_at.1 q_L_at.2.1 q_L_at.2.2.1 (some .int) q_L_at.2.2.2 ∈ am_Gw := am_Gin 635 (by decide +kernel) (by decide +kernel)
theorem s_L_at : Cond.static q_L_at.1 ∈ am_Gw := am_Gin 634 (by decide +kernel) (by decide +kernel)
abbrev ub_L_at : AT := [(0, am_ald 3 1), (1, am_ic 0 1), (2, am_ald 0 1), (3, am_ild 1 1), (4, am_ild 2 1), (5, am_callV am_Y 8 29 2), (8, am_i2l), (9, am_last am_Y), (10, am_goto 21), (15, am_ic 1 1), (16, am_ret), (19, am_ic 2 1), (20, am_ret), (21, am_ic 0 1), (22, am_ret)]
set_option maxRecDepth 100000 in
set_option maxHeartbeats 4000000 in
theorem U_L_at : hp_T q_L_at ub_L_at := by
  intro E A p l e s m args below meth c Rt X hr
  refine List.forall_mem_cons.mpr ⟨am_aload_n_ok (k := 3) X (by decide +kernel), ?_⟩
  refine List.forall_mem_cons.mpr ⟨am_iconst_ok X (by decide +kernel), ?_⟩
  refine List.forall_mem_cons.mpr ⟨am_aload_n_ok (k := 0) X (by decide +kernel), ?_⟩
  refine List.forall_mem_cons.mpr ⟨am_iload_n_ok (k := 1) X (by decide +kernel), ?_⟩
  refine List.forall_mem_cons.mpr ⟨am_iload_n_ok (k := 2) X (by decide +kernel), ?_⟩
  refine List.forall_mem_cons.mpr ⟨am_callV_ok (C := R_De) (T := F_De) (N := 7) (idx := 7) X rfl (am_GV mL_7 v_De_at.1 v_De_at.2.1 v_De_at.2.2.1 v_De_at.2.2.2) ⟨rfl, v_De_atd⟩ ⟨by decide, by decide⟩ (Nat.zero_le _) (by decide +kernel), ?_⟩
  refine List.forall_mem_cons.mpr ⟨am_i2l_ok X (by decide +kernel), ?_⟩
  refine List.forall_mem_cons.mpr ⟨am_last_ok X am_Y0 (by decide +kernel), ?_⟩
  refine List.forall_mem_cons.mpr ⟨am_goto_ok (off := 11) X (by decide +kernel) (by decide), ?_⟩
  refine List.forall_mem_cons.mpr ⟨am_iconst_ok X (by decide +kernel), ?_⟩
  refine List.forall_mem_cons.mpr ⟨hp_ret_ok X hr (by decide +kernel), ?_⟩
  refine List.forall_mem_cons.mpr ⟨am_iconst_ok X (by decide +kernel), ?_⟩
  refine List.forall_mem_cons.mpr ⟨hp_ret_ok X hr (by decide +kernel), ?_⟩
  refine List.forall_mem_cons.mpr ⟨am_iconst_ok X (by decide +kernel), ?_⟩
  refine List.forall_mem_cons.mpr ⟨hp_ret_ok X hr (by decide +kernel), ?_⟩
  exact fun _ h => absurd h List.not_mem_nil
abbrev q_L_distance : HM := (⟨"PointDeskLaw", "distance", "(LPointDesk;II[J)I"⟩, method_4_code, 5, [(0, 9, 12, 13)])
theorem c_L_distance : Cond.codeWith q_L_distance.1 q_L_distance.2.1 q_L_distance.2.2.1 (some .int) q_L_distance.2.2.2 ∈ am_Gw := am_Gin 731 (by decide +kernel) (by decide +kernel)
theorem s_L_distance : Cond.static q_L_distance.1 ∈ am_Gw := am_Gin 730 (by decide +kernel) (by decide +kernel)
abbrev ub_L_distance : AT := [(0, am_ald 3 1), (1, am_ic 0 1), (2, am_ald 0 1), (3, am_ild 1 1), (4, am_ild 2 1), (5, am_callV am_Y 8 35 2), (8, am_last am_Y), (9, am_goto 16), (14, am_ic 1 1), (15, am_ret), (16, am_ic 0 1), (17, am_ret)]
set_option maxRecDepth 100000 in
set_option maxHeartbeats 4000000 in
theorem U_L_distance : hp_T q_L_distance ub_L_distance := by
  intro E A p l e s m args below meth c Rt X hr
  refine List.forall_mem_cons.mpr ⟨am_aload_n_ok (k := 3) X (by decide +kernel), ?_⟩
  refine List.forall_mem_cons.mpr ⟨am_iconst_ok X (by decide +kernel), ?_⟩
  refine List.forall_mem_cons.mpr ⟨am_aload_n_ok (k := 0) X (by decide +kernel), ?_⟩
  refine List.forall_mem_cons.mpr ⟨am_iload_n_ok (k := 1) X (by decide +kernel), ?_⟩
  refine List.forall_mem_cons.mpr ⟨am_iload_n_ok (k := 2) X (by decide +kernel), ?_⟩
  refine List.forall_mem_cons.mpr ⟨am_callV_ok (C := R_De) (T := F_De) (N := 7) (idx := 17) X rfl (am_GV mL_17 v_De_distance.1 v_De_distance.2.1 v_De_distance.2.2.1 v_De_distance.2.2.2) ⟨rfl, v_De_distanced⟩ ⟨by decide, by decide⟩ (Nat.zero_le _) (by decide +kernel), ?_⟩
  refine List.forall_mem_cons.mpr ⟨am_last_ok X am_Y0 (by decide +kernel), ?_⟩
  refine List.forall_mem_cons.mpr ⟨am_goto_ok (off := 7) X (by decide +kernel) (by decide), ?_⟩
  refine List.forall_mem_cons.mpr ⟨am_iconst_ok X (by decide +kernel), ?_⟩
  refine List.forall_mem_cons.mpr ⟨hp_ret_ok X hr (by decide +kernel), ?_⟩
  refine List.forall_mem_cons.mpr ⟨am_iconst_ok X (by decide +kernel), ?_⟩
  refine List.forall_mem_cons.mpr ⟨hp_ret_ok X hr (by decide +kernel), ?_⟩
  exact fun _ h => absurd h List.not_mem_nil
abbrev q_L_side : HM := (⟨"PointDeskLaw", "side", "(LPointDesk;II[J)I"⟩, method_5_code, 5, [(0, 9, 12, 13), (0, 9, 16, 15)])
theorem c_L_side : Cond.codeWith q_L_side.1 q_L_side.2.1 q_L_side.2.2.1 (some .int) q_L_side.2.2.2 ∈ am_Gw := am_Gin 738 (by decide +kernel) (by decide +kernel)
theorem s_L_side : Cond.static q_L_side.1 ∈ am_Gw := am_Gin 737 (by decide +kernel) (by decide +kernel)
abbrev ub_L_side : AT := [(0, am_ald 3 1), (1, am_ic 0 1), (2, am_ald 0 1), (3, am_ild 1 1), (4, am_ild 2 1), (5, am_callV am_Y 8 46 2), (8, am_last am_Y), (9, am_goto 20), (14, am_ic 1 1), (15, am_ret), (18, am_ic 2 1), (19, am_ret), (20, am_ic 0 1), (21, am_ret)]
set_option maxRecDepth 100000 in
set_option maxHeartbeats 4000000 in
theorem U_L_side : hp_T q_L_side ub_L_side := by
  intro E A p l e s m args below meth c Rt X hr
  refine List.forall_mem_cons.mpr ⟨am_aload_n_ok (k := 3) X (by decide +kernel), ?_⟩
  refine List.forall_mem_cons.mpr ⟨am_iconst_ok X (by decide +kernel), ?_⟩
  refine List.forall_mem_cons.mpr ⟨am_aload_n_ok (k := 0) X (by decide +kernel), ?_⟩
  refine List.forall_mem_cons.mpr ⟨am_iload_n_ok (k := 1) X (by decide +kernel), ?_⟩
  refine List.forall_mem_cons.mpr ⟨am_iload_n_ok (k := 2) X (by decide +kernel), ?_⟩
  refine List.forall_mem_cons.mpr ⟨am_callV_ok (C := R_De) (T := F_De) (N := 7) (idx := 21) X rfl (am_GV mL_21 v_De_side.1 v_De_side.2.1 v_De_side.2.2.1 v_De_side.2.2.2) ⟨rfl, v_De_sided⟩ ⟨by decide, by decide⟩ (Nat.zero_le _) (by decide +kernel), ?_⟩
  refine List.forall_mem_cons.mpr ⟨am_last_ok X am_Y0 (by decide +kernel), ?_⟩
  refine List.forall_mem_cons.mpr ⟨am_goto_ok (off := 11) X (by decide +kernel) (by decide), ?_⟩
  refine List.forall_mem_cons.mpr ⟨am_iconst_ok X (by decide +kernel), ?_⟩
  refine List.forall_mem_cons.mpr ⟨hp_ret_ok X hr (by decide +kernel), ?_⟩
  refine List.forall_mem_cons.mpr ⟨am_iconst_ok X (by decide +kernel), ?_⟩
  refine List.forall_mem_cons.mpr ⟨hp_ret_ok X hr (by decide +kernel), ?_⟩
  refine List.forall_mem_cons.mpr ⟨am_iconst_ok X (by decide +kernel), ?_⟩
  refine List.forall_mem_cons.mpr ⟨hp_ret_ok X hr (by decide +kernel), ?_⟩
  exact fun _ h => absurd h List.not_mem_nil
abbrev q_L_where : HM := (⟨"PointDeskLaw", "where", "(LPointDesk;II[J)I"⟩, method_6_code, 5, [(0, 10, 13, 15)])
theorem c_L_where : Cond.codeWith q_L_where.1 q_L_where.2.1 q_L_where.2.2.1 (some .int) q_L_where.2.2.2 ∈ am_Gw := am_Gin 750 (by decide +kernel) (by decide +kernel)
theorem s_L_where : Cond.static q_L_where.1 ∈ am_Gw := am_Gin 749 (by decide +kernel) (by decide +kernel)
abbrev ub_L_where : AT := [(0, am_ald 3 1), (1, am_ic 0 1), (2, am_ald 0 1), (3, am_ild 1 1), (4, am_ild 2 1), (5, am_callV am_Y 8 49 2), (8, am_i2l), (9, am_last am_Y), (10, am_goto 17), (15, am_ic 1 1), (16, am_ret), (17, am_ic 0 1), (18, am_ret)]
set_option maxRecDepth 100000 in
set_option maxHeartbeats 4000000 in
theorem U_L_where : hp_T q_L_where ub_L_where := by
  intro E A p l e s m args below meth c Rt X hr
  refine List.forall_mem_cons.mpr ⟨am_aload_n_ok (k := 3) X (by decide +kernel), ?_⟩
  refine List.forall_mem_cons.mpr ⟨am_iconst_ok X (by decide +kernel), ?_⟩
  refine List.forall_mem_cons.mpr ⟨am_aload_n_ok (k := 0) X (by decide +kernel), ?_⟩
  refine List.forall_mem_cons.mpr ⟨am_iload_n_ok (k := 1) X (by decide +kernel), ?_⟩
  refine List.forall_mem_cons.mpr ⟨am_iload_n_ok (k := 2) X (by decide +kernel), ?_⟩
  refine List.forall_mem_cons.mpr ⟨am_callV_ok (C := R_De) (T := F_De) (N := 7) (idx := 24) X rfl (am_GV mL_24 v_De_where.1 v_De_where.2.1 v_De_where.2.2.1 v_De_where.2.2.2) ⟨rfl, v_De_whered⟩ ⟨by decide, by decide⟩ (Nat.zero_le _) (by decide +kernel), ?_⟩
  refine List.forall_mem_cons.mpr ⟨am_i2l_ok X (by decide +kernel), ?_⟩
  refine List.forall_mem_cons.mpr ⟨am_last_ok X am_Y0 (by decide +kernel), ?_⟩
  refine List.forall_mem_cons.mpr ⟨am_goto_ok (off := 7) X (by decide +kernel) (by decide), ?_⟩
  refine List.forall_mem_cons.mpr ⟨am_iconst_ok X (by decide +kernel), ?_⟩
  refine List.forall_mem_cons.mpr ⟨hp_ret_ok X hr (by decide +kernel), ?_⟩
  refine List.forall_mem_cons.mpr ⟨am_iconst_ok X (by decide +kernel), ?_⟩
  refine List.forall_mem_cons.mpr ⟨hp_ret_ok X hr (by decide +kernel), ?_⟩
  exact fun _ h => absurd h List.not_mem_nil
abbrev q_L_nearest : HM := (⟨"PointDeskLaw", "nearest", "(LPointDesk;II[J)I"⟩, method_7_code, 5, [(0, 10, 13, 15)])
theorem c_L_nearest : Cond.codeWith q_L_nearest.1 q_L_nearest.2.1 q_L_nearest.2.2.1 (some .int) q_L_nearest.2.2.2 ∈ am_Gw := am_Gin 766 (by decide +kernel) (by decide +kernel)
theorem s_L_nearest : Cond.static q_L_nearest.1 ∈ am_Gw := am_Gin 765 (by decide +kernel) (by decide +kernel)
abbrev ub_L_nearest : AT := [(0, am_ald 3 1), (1, am_ic 0 1), (2, am_ald 0 1), (3, am_ild 1 1), (4, am_ild 2 1), (5, am_callV am_Y 8 50 2), (8, am_i2l), (9, am_last am_Y), (10, am_goto 17), (15, am_ic 1 1), (16, am_ret), (17, am_ic 0 1), (18, am_ret)]
set_option maxRecDepth 100000 in
set_option maxHeartbeats 4000000 in
theorem U_L_nearest : hp_T q_L_nearest ub_L_nearest := by
  intro E A p l e s m args below meth c Rt X hr
  refine List.forall_mem_cons.mpr ⟨am_aload_n_ok (k := 3) X (by decide +kernel), ?_⟩
  refine List.forall_mem_cons.mpr ⟨am_iconst_ok X (by decide +kernel), ?_⟩
  refine List.forall_mem_cons.mpr ⟨am_aload_n_ok (k := 0) X (by decide +kernel), ?_⟩
  refine List.forall_mem_cons.mpr ⟨am_iload_n_ok (k := 1) X (by decide +kernel), ?_⟩
  refine List.forall_mem_cons.mpr ⟨am_iload_n_ok (k := 2) X (by decide +kernel), ?_⟩
  refine List.forall_mem_cons.mpr ⟨am_callV_ok (C := R_De) (T := F_De) (N := 7) (idx := 27) X rfl (am_GV mL_27 v_De_nearest.1 v_De_nearest.2.1 v_De_nearest.2.2.1 v_De_nearest.2.2.2) ⟨rfl, v_De_nearestd⟩ ⟨by decide, by decide⟩ (Nat.zero_le _) (by decide +kernel), ?_⟩
  refine List.forall_mem_cons.mpr ⟨am_i2l_ok X (by decide +kernel), ?_⟩
  refine List.forall_mem_cons.mpr ⟨am_last_ok X am_Y0 (by decide +kernel), ?_⟩
  refine List.forall_mem_cons.mpr ⟨am_goto_ok (off := 7) X (by decide +kernel) (by decide), ?_⟩
  refine List.forall_mem_cons.mpr ⟨am_iconst_ok X (by decide +kernel), ?_⟩
  refine List.forall_mem_cons.mpr ⟨hp_ret_ok X hr (by decide +kernel), ?_⟩
  refine List.forall_mem_cons.mpr ⟨am_iconst_ok X (by decide +kernel), ?_⟩
  refine List.forall_mem_cons.mpr ⟨hp_ret_ok X hr (by decide +kernel), ?_⟩
  exact fun _ h => absurd h List.not_mem_nil
abbrev q_L_beside : HM := (⟨"PointDeskLaw", "beside", "(LPointDesk;III[J)I"⟩, method_8_code, 6, [(0, 12, 15, 13)])
theorem c_L_beside : Cond.codeWith q_L_beside.1 q_L_beside.2.1 q_L_beside.2.2.1 (some .int) q_L_beside.2.2.2 ∈ am_Gw := am_Gin 773 (by decide +kernel) (by decide +kernel)
theorem s_L_beside : Cond.static q_L_beside.1 ∈ am_Gw := am_Gin 772 (by decide +kernel) (by decide +kernel)
abbrev ub_L_beside : AT := [(0, am_ald 4 2), (2, am_ic 0 1), (3, am_ald 0 1), (4, am_ild 1 1), (5, am_ild 2 1), (6, am_ild 3 1), (7, am_callV am_Y 8 52 3), (10, am_i2l), (11, am_last am_Y), (12, am_goto 19), (17, am_ic 1 1), (18, am_ret), (19, am_ic 0 1), (20, am_ret)]
set_option maxRecDepth 100000 in
set_option maxHeartbeats 4000000 in
theorem U_L_beside : hp_T q_L_beside ub_L_beside := by
  intro E A p l e s m args below meth c Rt X hr
  refine List.forall_mem_cons.mpr ⟨am_aload_ok X (by decide +kernel), ?_⟩
  refine List.forall_mem_cons.mpr ⟨am_iconst_ok X (by decide +kernel), ?_⟩
  refine List.forall_mem_cons.mpr ⟨am_aload_n_ok (k := 0) X (by decide +kernel), ?_⟩
  refine List.forall_mem_cons.mpr ⟨am_iload_n_ok (k := 1) X (by decide +kernel), ?_⟩
  refine List.forall_mem_cons.mpr ⟨am_iload_n_ok (k := 2) X (by decide +kernel), ?_⟩
  refine List.forall_mem_cons.mpr ⟨am_iload_n_ok (k := 3) X (by decide +kernel), ?_⟩
  refine List.forall_mem_cons.mpr ⟨am_callV_ok (C := R_De) (T := F_De) (N := 7) (idx := 30) X rfl (am_GV mL_30 v_De_beside.1 v_De_beside.2.1 v_De_beside.2.2.1 v_De_beside.2.2.2) ⟨rfl, v_De_besided⟩ ⟨by decide, by decide⟩ (Nat.zero_le _) (by decide +kernel), ?_⟩
  refine List.forall_mem_cons.mpr ⟨am_i2l_ok X (by decide +kernel), ?_⟩
  refine List.forall_mem_cons.mpr ⟨am_last_ok X am_Y0 (by decide +kernel), ?_⟩
  refine List.forall_mem_cons.mpr ⟨am_goto_ok (off := 7) X (by decide +kernel) (by decide), ?_⟩
  refine List.forall_mem_cons.mpr ⟨am_iconst_ok X (by decide +kernel), ?_⟩
  refine List.forall_mem_cons.mpr ⟨hp_ret_ok X hr (by decide +kernel), ?_⟩
  refine List.forall_mem_cons.mpr ⟨am_iconst_ok X (by decide +kernel), ?_⟩
  refine List.forall_mem_cons.mpr ⟨hp_ret_ok X hr (by decide +kernel), ?_⟩
  exact fun _ h => absurd h List.not_mem_nil
abbrev q_L_turn : HM := (⟨"PointDeskLaw", "turn", "(LPointDesk;II)I"⟩, method_9_code, 4, [(0, 6, 9, 13)])
theorem c_L_turn : Cond.codeWith q_L_turn.1 q_L_turn.2.1 q_L_turn.2.2.1 (some .int) q_L_turn.2.2.2 ∈ am_Gw := am_Gin 782 (by decide +kernel) (by decide +kernel)
theorem s_L_turn : Cond.static q_L_turn.1 ∈ am_Gw := am_Gin 781 (by decide +kernel) (by decide +kernel)
abbrev ub_L_turn : AT := [(0, am_ald 0 1), (1, am_ild 1 1), (2, am_ild 2 1), (3, am_callV am_Y 8 58 2), (6, am_goto 12), (10, am_ic 1 1), (11, am_ret), (12, am_ic 0 1), (13, am_ret)]
set_option maxRecDepth 100000 in
set_option maxHeartbeats 4000000 in
theorem U_L_turn : hp_T q_L_turn ub_L_turn := by
  intro E A p l e s m args below meth c Rt X hr
  refine List.forall_mem_cons.mpr ⟨am_aload_n_ok (k := 0) X (by decide +kernel), ?_⟩
  refine List.forall_mem_cons.mpr ⟨am_iload_n_ok (k := 1) X (by decide +kernel), ?_⟩
  refine List.forall_mem_cons.mpr ⟨am_iload_n_ok (k := 2) X (by decide +kernel), ?_⟩
  refine List.forall_mem_cons.mpr ⟨am_callV_ok (C := R_De) (T := F_De) (N := 7) (idx := 34) X rfl (am_GV mL_34 v_De_turn.1 v_De_turn.2.1 v_De_turn.2.2.1 v_De_turn.2.2.2) ⟨rfl, v_De_turnd⟩ ⟨by decide, by decide⟩ (Nat.zero_le _) (by decide +kernel), ?_⟩
  refine List.forall_mem_cons.mpr ⟨am_goto_ok (off := 6) X (by decide +kernel) (by decide), ?_⟩
  refine List.forall_mem_cons.mpr ⟨am_iconst_ok X (by decide +kernel), ?_⟩
  refine List.forall_mem_cons.mpr ⟨hp_ret_ok X hr (by decide +kernel), ?_⟩
  refine List.forall_mem_cons.mpr ⟨am_iconst_ok X (by decide +kernel), ?_⟩
  refine List.forall_mem_cons.mpr ⟨hp_ret_ok X hr (by decide +kernel), ?_⟩
  exact fun _ h => absurd h List.not_mem_nil
abbrev q_L_inside : HM := (⟨"PointDeskLaw", "inside", "(LPointDesk;II[J)I"⟩, method_10_code, 5, [(0, 10, 13, 15)])
theorem c_L_inside : Cond.codeWith q_L_inside.1 q_L_inside.2.1 q_L_inside.2.2.1 (some .int) q_L_inside.2.2.2 ∈ am_Gw := am_Gin 794 (by decide +kernel) (by decide +kernel)
theorem s_L_inside : Cond.static q_L_inside.1 ∈ am_Gw := am_Gin 793 (by decide +kernel) (by decide +kernel)
abbrev ub_L_inside : AT := [(0, am_ald 3 1), (1, am_ic 0 1), (2, am_ald 0 1), (3, am_ild 1 1), (4, am_ild 2 1), (5, am_callV am_Y 8 75 2), (8, am_i2l), (9, am_last am_Y), (10, am_goto 17), (15, am_ic 1 1), (16, am_ret), (17, am_ic 0 1), (18, am_ret)]
set_option maxRecDepth 100000 in
set_option maxHeartbeats 4000000 in
theorem U_L_inside : hp_T q_L_inside ub_L_inside := by
  intro E A p l e s m args below meth c Rt X hr
  refine List.forall_mem_cons.mpr ⟨am_aload_n_ok (k := 3) X (by decide +kernel), ?_⟩
  refine List.forall_mem_cons.mpr ⟨am_iconst_ok X (by decide +kernel), ?_⟩
  refine List.forall_mem_cons.mpr ⟨am_aload_n_ok (k := 0) X (by decide +kernel), ?_⟩
  refine List.forall_mem_cons.mpr ⟨am_iload_n_ok (k := 1) X (by decide +kernel), ?_⟩
  refine List.forall_mem_cons.mpr ⟨am_iload_n_ok (k := 2) X (by decide +kernel), ?_⟩
  refine List.forall_mem_cons.mpr ⟨am_callV_ok (C := R_De) (T := F_De) (N := 7) (idx := 38) X rfl (am_GV mL_38 v_De_inside.1 v_De_inside.2.1 v_De_inside.2.2.1 v_De_inside.2.2.2) ⟨rfl, v_De_insided⟩ ⟨by decide, by decide⟩ (Nat.zero_le _) (by decide +kernel), ?_⟩
  refine List.forall_mem_cons.mpr ⟨am_i2l_ok X (by decide +kernel), ?_⟩
  refine List.forall_mem_cons.mpr ⟨am_last_ok X am_Y0 (by decide +kernel), ?_⟩
  refine List.forall_mem_cons.mpr ⟨am_goto_ok (off := 7) X (by decide +kernel) (by decide), ?_⟩
  refine List.forall_mem_cons.mpr ⟨am_iconst_ok X (by decide +kernel), ?_⟩
  refine List.forall_mem_cons.mpr ⟨hp_ret_ok X hr (by decide +kernel), ?_⟩
  refine List.forall_mem_cons.mpr ⟨am_iconst_ok X (by decide +kernel), ?_⟩
  refine List.forall_mem_cons.mpr ⟨hp_ret_ok X hr (by decide +kernel), ?_⟩
  exact fun _ h => absurd h List.not_mem_nil
