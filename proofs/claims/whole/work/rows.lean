section
-- ===== PART A: goes FIRST, ahead of the names: the tables' words, and 'selects' of the private methods out of them =====
/-- a private method of a class that the tables say can be made, by its rows of tables_1 -/
def lw_okq (q : MethodName × Nat) : Prop := (q.1.cls ≠ "java/lang/invoke/MethodHandle" ∧ q.1.cls ≠ "java/lang/invoke/VarHandle") ∧ Cond.instantiable q.1.cls q.2 ∈ tables_1 ∧ Cond.privateMethod q.1 ∈ tables_1 ∧ Cond.instanceMethod q.1 ∈ tables_1
theorem lw_p0 : lw_okq (⟨"PointDesk$Hull", "lowest", "()I"⟩, 5) := ⟨⟨by decide +kernel, by decide +kernel⟩, List.mem_of_getElem? (i := 55) (by decide +kernel), List.mem_of_getElem? (i := 289) (by decide +kernel), List.mem_of_getElem? (i := 290) (by decide +kernel)⟩
theorem lw_p1 : lw_okq (⟨"PointDesk$Hull", "isLower", "(II)Z"⟩, 5) := ⟨⟨by decide +kernel, by decide +kernel⟩, List.mem_of_getElem? (i := 55) (by decide +kernel), List.mem_of_getElem? (i := 297) (by decide +kernel), List.mem_of_getElem? (i := 298) (by decide +kernel)⟩
theorem lw_p2 : lw_okq (⟨"PointDesk$Hull", "cornerBehind", "(I)I"⟩, 5) := ⟨⟨by decide +kernel, by decide +kernel⟩, List.mem_of_getElem? (i := 55) (by decide +kernel), List.mem_of_getElem? (i := 301) (by decide +kernel), List.mem_of_getElem? (i := 302) (by decide +kernel)⟩
theorem lw_p3 : lw_okq (⟨"PointDesk$Hull", "isBetter", "(III)Z"⟩, 5) := ⟨⟨by decide +kernel, by decide +kernel⟩, List.mem_of_getElem? (i := 55) (by decide +kernel), List.mem_of_getElem? (i := 309) (by decide +kernel), List.mem_of_getElem? (i := 310) (by decide +kernel)⟩
theorem lw_p4 : lw_okq (⟨"PointDesk$Layers", "takeOffBorder", "()I"⟩, 5) := ⟨⟨by decide +kernel, by decide +kernel⟩, List.mem_of_getElem? (i := 112) (by decide +kernel), List.mem_of_getElem? (i := 326) (by decide +kernel), List.mem_of_getElem? (i := 327) (by decide +kernel)⟩
theorem lw_p5 : lw_okq (⟨"PointDesk$HullSides", "isLess", "(III)Z"⟩, 4) := ⟨⟨by decide +kernel, by decide +kernel⟩, List.mem_of_getElem? (i := 82) (by decide +kernel), List.mem_of_getElem? (i := 395) (by decide +kernel), List.mem_of_getElem? (i := 396) (by decide +kernel)⟩
theorem lw_p6 : lw_okq (⟨"PointDesk$HullSides", "width", "(II)J"⟩, 4) := ⟨⟨by decide +kernel, by decide +kernel⟩, List.mem_of_getElem? (i := 82) (by decide +kernel), List.mem_of_getElem? (i := 408) (by decide +kernel), List.mem_of_getElem? (i := 409) (by decide +kernel)⟩
theorem lw_p7 : lw_okq (⟨"PointDesk$WideProduct", "multiplyBy", "(J)V"⟩, 1) := ⟨⟨by decide +kernel, by decide +kernel⟩, List.mem_of_getElem? (i := 88) (by decide +kernel), List.mem_of_getElem? (i := 429) (by decide +kernel), List.mem_of_getElem? (i := 430) (by decide +kernel)⟩
theorem lw_p8 : lw_okq (⟨"PointDesk$Crossings", "doCross", "(II)Z"⟩, 6) := ⟨⟨by decide +kernel, by decide +kernel⟩, List.mem_of_getElem? (i := 165) (by decide +kernel), List.mem_of_getElem? (i := 462) (by decide +kernel), List.mem_of_getElem? (i := 463) (by decide +kernel)⟩
theorem lw_p9 : lw_okq (⟨"PointDesk$Crossings", "foldsBack", "(II)Z"⟩, 6) := ⟨⟨by decide +kernel, by decide +kernel⟩, List.mem_of_getElem? (i := 165) (by decide +kernel), List.mem_of_getElem? (i := 470) (by decide +kernel), List.mem_of_getElem? (i := 471) (by decide +kernel)⟩
theorem lw_p10 : lw_okq (⟨"PointDesk", "isRouteSimple", "()Z"⟩, 7) := ⟨⟨by decide +kernel, by decide +kernel⟩, List.mem_of_getElem? (i := 18) (by decide +kernel), List.mem_of_getElem? (i := 503) (by decide +kernel), List.mem_of_getElem? (i := 504) (by decide +kernel)⟩
theorem lw_p11 : lw_okq (⟨"PointDesk$Triangles", "cutAll", "()V"⟩, 8) := ⟨⟨by decide +kernel, by decide +kernel⟩, List.mem_of_getElem? (i := 193) (by decide +kernel), List.mem_of_getElem? (i := 528) (by decide +kernel), List.mem_of_getElem? (i := 529) (by decide +kernel)⟩
theorem lw_p12 : lw_okq (⟨"PointDesk$Triangles", "firstEar", "()I"⟩, 8) := ⟨⟨by decide +kernel, by decide +kernel⟩, List.mem_of_getElem? (i := 193) (by decide +kernel), List.mem_of_getElem? (i := 533) (by decide +kernel), List.mem_of_getElem? (i := 534) (by decide +kernel)⟩
theorem lw_p13 : lw_okq (⟨"PointDesk$Triangles", "isEar", "(I)Z"⟩, 8) := ⟨⟨by decide +kernel, by decide +kernel⟩, List.mem_of_getElem? (i := 193) (by decide +kernel), List.mem_of_getElem? (i := 537) (by decide +kernel), List.mem_of_getElem? (i := 538) (by decide +kernel)⟩
theorem lw_p14 : lw_okq (⟨"PointDesk$Triangles", "before", "(I)I"⟩, 8) := ⟨⟨by decide +kernel, by decide +kernel⟩, List.mem_of_getElem? (i := 193) (by decide +kernel), List.mem_of_getElem? (i := 541) (by decide +kernel), List.mem_of_getElem? (i := 542) (by decide +kernel)⟩
theorem lw_p15 : lw_okq (⟨"PointDesk$Triangles", "behind", "(I)I"⟩, 8) := ⟨⟨by decide +kernel, by decide +kernel⟩, List.mem_of_getElem? (i := 193) (by decide +kernel), List.mem_of_getElem? (i := 545) (by decide +kernel), List.mem_of_getElem? (i := 546) (by decide +kernel)⟩
def lw_privs_1 : List (MethodName × Nat) := [(⟨"PointDesk$Hull", "lowest", "()I"⟩, 5), (⟨"PointDesk$Hull", "isLower", "(II)Z"⟩, 5), (⟨"PointDesk$Hull", "cornerBehind", "(I)I"⟩, 5), (⟨"PointDesk$Hull", "isBetter", "(III)Z"⟩, 5), (⟨"PointDesk$Layers", "takeOffBorder", "()I"⟩, 5), (⟨"PointDesk$HullSides", "isLess", "(III)Z"⟩, 4), (⟨"PointDesk$HullSides", "width", "(II)J"⟩, 4), (⟨"PointDesk$WideProduct", "multiplyBy", "(J)V"⟩, 1), (⟨"PointDesk$Crossings", "doCross", "(II)Z"⟩, 6), (⟨"PointDesk$Crossings", "foldsBack", "(II)Z"⟩, 6), (⟨"PointDesk", "isRouteSimple", "()Z"⟩, 7), (⟨"PointDesk$Triangles", "cutAll", "()V"⟩, 8), (⟨"PointDesk$Triangles", "firstEar", "()I"⟩, 8), (⟨"PointDesk$Triangles", "isEar", "(I)Z"⟩, 8), (⟨"PointDesk$Triangles", "before", "(I)I"⟩, 8), (⟨"PointDesk$Triangles", "behind", "(I)I"⟩, 8)]
theorem lw_r1 : ∀ q ∈ lw_privs_1, lw_okq q := List.forall_mem_cons.mpr ⟨lw_p0, List.forall_mem_cons.mpr ⟨lw_p1, List.forall_mem_cons.mpr ⟨lw_p2, List.forall_mem_cons.mpr ⟨lw_p3, List.forall_mem_cons.mpr ⟨lw_p4, List.forall_mem_cons.mpr ⟨lw_p5, List.forall_mem_cons.mpr ⟨lw_p6, List.forall_mem_cons.mpr ⟨lw_p7, List.forall_mem_cons.mpr ⟨lw_p8, List.forall_mem_cons.mpr ⟨lw_p9, List.forall_mem_cons.mpr ⟨lw_p10, List.forall_mem_cons.mpr ⟨lw_p11, List.forall_mem_cons.mpr ⟨lw_p12, List.forall_mem_cons.mpr ⟨lw_p13, List.forall_mem_cons.mpr ⟨lw_p14, List.forall_mem_cons.mpr ⟨lw_p15, fun _ h => absurd h List.not_mem_nil⟩⟩⟩⟩⟩⟩⟩⟩⟩⟩⟩⟩⟩⟩⟩⟩
theorem lw_p16 : lw_okq (⟨"PointDesk$Triangles", "turnInwards", "(III)J"⟩, 8) := ⟨⟨by decide +kernel, by decide +kernel⟩, List.mem_of_getElem? (i := 193) (by decide +kernel), List.mem_of_getElem? (i := 549) (by decide +kernel), List.mem_of_getElem? (i := 550) (by decide +kernel)⟩
theorem lw_p17 : lw_okq (⟨"PointDesk$Triangles", "isInTriangle", "(IIII)Z"⟩, 8) := ⟨⟨by decide +kernel, by decide +kernel⟩, List.mem_of_getElem? (i := 193) (by decide +kernel), List.mem_of_getElem? (i := 554) (by decide +kernel), List.mem_of_getElem? (i := 555) (by decide +kernel)⟩
theorem lw_p18 : lw_okq (⟨"PointDesk$Triangles", "keep", "(III)V"⟩, 8) := ⟨⟨by decide +kernel, by decide +kernel⟩, List.mem_of_getElem? (i := 193) (by decide +kernel), List.mem_of_getElem? (i := 558) (by decide +kernel), List.mem_of_getElem? (i := 559) (by decide +kernel)⟩
theorem lw_p19 : lw_okq (⟨"PointDesk$Triangles", "remove", "(I)V"⟩, 8) := ⟨⟨by decide +kernel, by decide +kernel⟩, List.mem_of_getElem? (i := 193) (by decide +kernel), List.mem_of_getElem? (i := 562) (by decide +kernel), List.mem_of_getElem? (i := 563) (by decide +kernel)⟩
theorem lw_p20 : lw_okq (⟨"PointDesk", "requirePoint", "(I)V"⟩, 7) := ⟨⟨by decide +kernel, by decide +kernel⟩, List.mem_of_getElem? (i := 18) (by decide +kernel), List.mem_of_getElem? (i := 593) (by decide +kernel), List.mem_of_getElem? (i := 594) (by decide +kernel)⟩
theorem lw_p21 : lw_okq (⟨"java/lang/Throwable", "fillInStackTrace", "(I)Ljava/lang/Throwable;"⟩, 6) := ⟨⟨by decide +kernel, by decide +kernel⟩, List.mem_of_getElem? (i := 634) (by decide +kernel), List.mem_of_getElem? (i := 632) (by decide +kernel), List.mem_of_getElem? (i := 633) (by decide +kernel)⟩
theorem lw_p22 : lw_okq (⟨"PointDeskModel", "hull", "()V"⟩, 13) := ⟨⟨by decide +kernel, by decide +kernel⟩, List.mem_of_getElem? (i := 759) (by decide +kernel), List.mem_of_getElem? (i := 826) (by decide +kernel), List.mem_of_getElem? (i := 827) (by decide +kernel)⟩
theorem lw_p23 : lw_okq (⟨"PointDeskModel", "markAll", "()V"⟩, 13) := ⟨⟨by decide +kernel, by decide +kernel⟩, List.mem_of_getElem? (i := 759) (by decide +kernel), List.mem_of_getElem? (i := 830) (by decide +kernel), List.mem_of_getElem? (i := 831) (by decide +kernel)⟩
theorem lw_p24 : lw_okq (⟨"PointDeskModel", "wrap", "()V"⟩, 13) := ⟨⟨by decide +kernel, by decide +kernel⟩, List.mem_of_getElem? (i := 759) (by decide +kernel), List.mem_of_getElem? (i := 834) (by decide +kernel), List.mem_of_getElem? (i := 835) (by decide +kernel)⟩
theorem lw_p25 : lw_okq (⟨"PointDeskModel", "follower", "(I)I"⟩, 13) := ⟨⟨by decide +kernel, by decide +kernel⟩, List.mem_of_getElem? (i := 759) (by decide +kernel), List.mem_of_getElem? (i := 838) (by decide +kernel), List.mem_of_getElem? (i := 839) (by decide +kernel)⟩
theorem lw_p26 : lw_okq (⟨"PointDeskModel", "isSame", "(II)Z"⟩, 13) := ⟨⟨by decide +kernel, by decide +kernel⟩, List.mem_of_getElem? (i := 759) (by decide +kernel), List.mem_of_getElem? (i := 842) (by decide +kernel), List.mem_of_getElem? (i := 843) (by decide +kernel)⟩
theorem lw_p27 : lw_okq (⟨"PointDeskModel", "turnOf", "(III)J"⟩, 13) := ⟨⟨by decide +kernel, by decide +kernel⟩, List.mem_of_getElem? (i := 759) (by decide +kernel), List.mem_of_getElem? (i := 847) (by decide +kernel), List.mem_of_getElem? (i := 848) (by decide +kernel)⟩
theorem lw_p28 : lw_okq (⟨"PointDeskModel", "c", "(IIII)J"⟩, 13) := ⟨⟨by decide +kernel, by decide +kernel⟩, List.mem_of_getElem? (i := 759) (by decide +kernel), List.mem_of_getElem? (i := 851) (by decide +kernel), List.mem_of_getElem? (i := 852) (by decide +kernel)⟩
theorem lw_p29 : lw_okq (⟨"PointDeskModel", "farOf", "(III)J"⟩, 13) := ⟨⟨by decide +kernel, by decide +kernel⟩, List.mem_of_getElem? (i := 759) (by decide +kernel), List.mem_of_getElem? (i := 855) (by decide +kernel), List.mem_of_getElem? (i := 856) (by decide +kernel)⟩
theorem lw_p30 : lw_okq (⟨"PointDeskModel", "peel", "()I"⟩, 13) := ⟨⟨by decide +kernel, by decide +kernel⟩, List.mem_of_getElem? (i := 759) (by decide +kernel), List.mem_of_getElem? (i := 859) (by decide +kernel), List.mem_of_getElem? (i := 860) (by decide +kernel)⟩
theorem lw_p31 : lw_okq (⟨"PointDeskModel", "whereIs", "(II)I"⟩, 13) := ⟨⟨by decide +kernel, by decide +kernel⟩, List.mem_of_getElem? (i := 759) (by decide +kernel), List.mem_of_getElem? (i := 863) (by decide +kernel), List.mem_of_getElem? (i := 864) (by decide +kernel)⟩
def lw_privs_2 : List (MethodName × Nat) := [(⟨"PointDesk$Triangles", "turnInwards", "(III)J"⟩, 8), (⟨"PointDesk$Triangles", "isInTriangle", "(IIII)Z"⟩, 8), (⟨"PointDesk$Triangles", "keep", "(III)V"⟩, 8), (⟨"PointDesk$Triangles", "remove", "(I)V"⟩, 8), (⟨"PointDesk", "requirePoint", "(I)V"⟩, 7), (⟨"java/lang/Throwable", "fillInStackTrace", "(I)Ljava/lang/Throwable;"⟩, 6), (⟨"PointDeskModel", "hull", "()V"⟩, 13), (⟨"PointDeskModel", "markAll", "()V"⟩, 13), (⟨"PointDeskModel", "wrap", "()V"⟩, 13), (⟨"PointDeskModel", "follower", "(I)I"⟩, 13), (⟨"PointDeskModel", "isSame", "(II)Z"⟩, 13), (⟨"PointDeskModel", "turnOf", "(III)J"⟩, 13), (⟨"PointDeskModel", "c", "(IIII)J"⟩, 13), (⟨"PointDeskModel", "farOf", "(III)J"⟩, 13), (⟨"PointDeskModel", "peel", "()I"⟩, 13), (⟨"PointDeskModel", "whereIs", "(II)I"⟩, 13)]
theorem lw_r2 : ∀ q ∈ lw_privs_2, lw_okq q := List.forall_mem_cons.mpr ⟨lw_p16, List.forall_mem_cons.mpr ⟨lw_p17, List.forall_mem_cons.mpr ⟨lw_p18, List.forall_mem_cons.mpr ⟨lw_p19, List.forall_mem_cons.mpr ⟨lw_p20, List.forall_mem_cons.mpr ⟨lw_p21, List.forall_mem_cons.mpr ⟨lw_p22, List.forall_mem_cons.mpr ⟨lw_p23, List.forall_mem_cons.mpr ⟨lw_p24, List.forall_mem_cons.mpr ⟨lw_p25, List.forall_mem_cons.mpr ⟨lw_p26, List.forall_mem_cons.mpr ⟨lw_p27, List.forall_mem_cons.mpr ⟨lw_p28, List.forall_mem_cons.mpr ⟨lw_p29, List.forall_mem_cons.mpr ⟨lw_p30, List.forall_mem_cons.mpr ⟨lw_p31, fun _ h => absurd h List.not_mem_nil⟩⟩⟩⟩⟩⟩⟩⟩⟩⟩⟩⟩⟩⟩⟩⟩
theorem lw_p32 : lw_okq (⟨"PointDeskModel", "isOn", "(IIII)Z"⟩, 13) := ⟨⟨by decide +kernel, by decide +kernel⟩, List.mem_of_getElem? (i := 759) (by decide +kernel), List.mem_of_getElem? (i := 867) (by decide +kernel), List.mem_of_getElem? (i := 868) (by decide +kernel)⟩
theorem lw_p33 : lw_okq (⟨"PointDeskModel", "next", "(I)I"⟩, 13) := ⟨⟨by decide +kernel, by decide +kernel⟩, List.mem_of_getElem? (i := 759) (by decide +kernel), List.mem_of_getElem? (i := 874) (by decide +kernel), List.mem_of_getElem? (i := 875) (by decide +kernel)⟩
theorem lw_p34 : lw_okq (⟨"PointDeskModel", "lines", "()I"⟩, 13) := ⟨⟨by decide +kernel, by decide +kernel⟩, List.mem_of_getElem? (i := 759) (by decide +kernel), List.mem_of_getElem? (i := 878) (by decide +kernel), List.mem_of_getElem? (i := 879) (by decide +kernel)⟩
theorem lw_p35 : lw_okq (⟨"PointDeskModel", "isPoint", "(I)Z"⟩, 13) := ⟨⟨by decide +kernel, by decide +kernel⟩, List.mem_of_getElem? (i := 759) (by decide +kernel), List.mem_of_getElem? (i := 886) (by decide +kernel), List.mem_of_getElem? (i := 887) (by decide +kernel)⟩
theorem lw_p36 : lw_okq (⟨"PointDeskModel", "heightOf", "(I)J"⟩, 13) := ⟨⟨by decide +kernel, by decide +kernel⟩, List.mem_of_getElem? (i := 759) (by decide +kernel), List.mem_of_getElem? (i := 914) (by decide +kernel), List.mem_of_getElem? (i := 915) (by decide +kernel)⟩
theorem lw_p37 : lw_okq (⟨"PointDeskModel", "spanOf", "(I)J"⟩, 13) := ⟨⟨by decide +kernel, by decide +kernel⟩, List.mem_of_getElem? (i := 759) (by decide +kernel), List.mem_of_getElem? (i := 918) (by decide +kernel), List.mem_of_getElem? (i := 919) (by decide +kernel)⟩
theorem lw_p38 : lw_okq (⟨"PointDeskModel", "lengthOf", "(I)J"⟩, 13) := ⟨⟨by decide +kernel, by decide +kernel⟩, List.mem_of_getElem? (i := 759) (by decide +kernel), List.mem_of_getElem? (i := 922) (by decide +kernel), List.mem_of_getElem? (i := 923) (by decide +kernel)⟩
theorem lw_p39 : lw_okq (⟨"PointDeskModel", "product", "(IJJJ)V"⟩, 13) := ⟨⟨by decide +kernel, by decide +kernel⟩, List.mem_of_getElem? (i := 759) (by decide +kernel), List.mem_of_getElem? (i := 926) (by decide +kernel), List.mem_of_getElem? (i := 927) (by decide +kernel)⟩
theorem lw_p40 : lw_okq (⟨"PointDeskModel", "times", "(IJ)V"⟩, 13) := ⟨⟨by decide +kernel, by decide +kernel⟩, List.mem_of_getElem? (i := 759) (by decide +kernel), List.mem_of_getElem? (i := 930) (by decide +kernel), List.mem_of_getElem? (i := 931) (by decide +kernel)⟩
theorem lw_p41 : lw_okq (⟨"PointDeskModel", "isLess", "()Z"⟩, 13) := ⟨⟨by decide +kernel, by decide +kernel⟩, List.mem_of_getElem? (i := 759) (by decide +kernel), List.mem_of_getElem? (i := 935) (by decide +kernel), List.mem_of_getElem? (i := 936) (by decide +kernel)⟩
theorem lw_p42 : lw_okq (⟨"PointDeskModel", "doCross", "(II)Z"⟩, 13) := ⟨⟨by decide +kernel, by decide +kernel⟩, List.mem_of_getElem? (i := 759) (by decide +kernel), List.mem_of_getElem? (i := 978) (by decide +kernel), List.mem_of_getElem? (i := 979) (by decide +kernel)⟩
theorem lw_p43 : lw_okq (⟨"PointDeskModel", "behind", "(I)I"⟩, 13) := ⟨⟨by decide +kernel, by decide +kernel⟩, List.mem_of_getElem? (i := 759) (by decide +kernel), List.mem_of_getElem? (i := 982) (by decide +kernel), List.mem_of_getElem? (i := 983) (by decide +kernel)⟩
theorem lw_p44 : lw_okq (⟨"PointDeskModel", "doOverlap", "(III)Z"⟩, 13) := ⟨⟨by decide +kernel, by decide +kernel⟩, List.mem_of_getElem? (i := 759) (by decide +kernel), List.mem_of_getElem? (i := 986) (by decide +kernel), List.mem_of_getElem? (i := 987) (by decide +kernel)⟩
theorem lw_p45 : lw_okq (⟨"PointDeskModel", "doShare", "(IIII)Z"⟩, 13) := ⟨⟨by decide +kernel, by decide +kernel⟩, List.mem_of_getElem? (i := 759) (by decide +kernel), List.mem_of_getElem? (i := 990) (by decide +kernel), List.mem_of_getElem? (i := 991) (by decide +kernel)⟩
theorem lw_p46 : lw_okq (⟨"PointDeskModel", "isSimple", "()Z"⟩, 13) := ⟨⟨by decide +kernel, by decide +kernel⟩, List.mem_of_getElem? (i := 759) (by decide +kernel), List.mem_of_getElem? (i := 1005) (by decide +kernel), List.mem_of_getElem? (i := 1006) (by decide +kernel)⟩
theorem lw_p47 : lw_okq (⟨"PointDeskModel", "roundOf", "()J"⟩, 13) := ⟨⟨by decide +kernel, by decide +kernel⟩, List.mem_of_getElem? (i := 759) (by decide +kernel), List.mem_of_getElem? (i := 1013) (by decide +kernel), List.mem_of_getElem? (i := 1014) (by decide +kernel)⟩
def lw_privs_3 : List (MethodName × Nat) := [(⟨"PointDeskModel", "isOn", "(IIII)Z"⟩, 13), (⟨"PointDeskModel", "next", "(I)I"⟩, 13), (⟨"PointDeskModel", "lines", "()I"⟩, 13), (⟨"PointDeskModel", "isPoint", "(I)Z"⟩, 13), (⟨"PointDeskModel", "heightOf", "(I)J"⟩, 13), (⟨"PointDeskModel", "spanOf", "(I)J"⟩, 13), (⟨"PointDeskModel", "lengthOf", "(I)J"⟩, 13), (⟨"PointDeskModel", "product", "(IJJJ)V"⟩, 13), (⟨"PointDeskModel", "times", "(IJ)V"⟩, 13), (⟨"PointDeskModel", "isLess", "()Z"⟩, 13), (⟨"PointDeskModel", "doCross", "(II)Z"⟩, 13), (⟨"PointDeskModel", "behind", "(I)I"⟩, 13), (⟨"PointDeskModel", "doOverlap", "(III)Z"⟩, 13), (⟨"PointDeskModel", "doShare", "(IIII)Z"⟩, 13), (⟨"PointDeskModel", "isSimple", "()Z"⟩, 13), (⟨"PointDeskModel", "roundOf", "()J"⟩, 13)]
theorem lw_r3 : ∀ q ∈ lw_privs_3, lw_okq q := List.forall_mem_cons.mpr ⟨lw_p32, List.forall_mem_cons.mpr ⟨lw_p33, List.forall_mem_cons.mpr ⟨lw_p34, List.forall_mem_cons.mpr ⟨lw_p35, List.forall_mem_cons.mpr ⟨lw_p36, List.forall_mem_cons.mpr ⟨lw_p37, List.forall_mem_cons.mpr ⟨lw_p38, List.forall_mem_cons.mpr ⟨lw_p39, List.forall_mem_cons.mpr ⟨lw_p40, List.forall_mem_cons.mpr ⟨lw_p41, List.forall_mem_cons.mpr ⟨lw_p42, List.forall_mem_cons.mpr ⟨lw_p43, List.forall_mem_cons.mpr ⟨lw_p44, List.forall_mem_cons.mpr ⟨lw_p45, List.forall_mem_cons.mpr ⟨lw_p46, List.forall_mem_cons.mpr ⟨lw_p47, fun _ h => absurd h List.not_mem_nil⟩⟩⟩⟩⟩⟩⟩⟩⟩⟩⟩⟩⟩⟩⟩⟩
theorem lw_p48 : lw_okq (⟨"PointDeskModel", "isEar", "(II)Z"⟩, 13) := ⟨⟨by decide +kernel, by decide +kernel⟩, List.mem_of_getElem? (i := 759) (by decide +kernel), List.mem_of_getElem? (i := 1025) (by decide +kernel), List.mem_of_getElem? (i := 1026) (by decide +kernel)⟩
theorem lw_p49 : lw_okq (⟨"PointDeskModel", "leftFrom", "(II)I"⟩, 13) := ⟨⟨by decide +kernel, by decide +kernel⟩, List.mem_of_getElem? (i := 759) (by decide +kernel), List.mem_of_getElem? (i := 1029) (by decide +kernel), List.mem_of_getElem? (i := 1030) (by decide +kernel)⟩
def lw_privs_4 : List (MethodName × Nat) := [(⟨"PointDeskModel", "isEar", "(II)Z"⟩, 13), (⟨"PointDeskModel", "leftFrom", "(II)I"⟩, 13)]
theorem lw_r4 : ∀ q ∈ lw_privs_4, lw_okq q := List.forall_mem_cons.mpr ⟨lw_p48, List.forall_mem_cons.mpr ⟨lw_p49, fun _ h => absurd h List.not_mem_nil⟩⟩
def lw_privs : List (MethodName × Nat) := lw_privs_1 ++ (lw_privs_2 ++ (lw_privs_3 ++ (lw_privs_4)))
def lw_tbl : List Cond := k2_sels lw_privs ++ tables_1
theorem lw_privs_ok : ∀ q ∈ lw_privs, lw_okq q := by
  show ∀ q ∈ lw_privs_1 ++ (lw_privs_2 ++ (lw_privs_3 ++ (lw_privs_4))), lw_okq q
  exact List.forall_mem_append.mpr ⟨lw_r1, List.forall_mem_append.mpr ⟨lw_r2, List.forall_mem_append.mpr ⟨lw_r3, lw_r4⟩⟩⟩
end
section
abbrev ge_P : Type := Int × Int
def ge_x (a b p : ge_P) : Int := (b.1 - a.1) * (p.2 - a.2) - (b.2 - a.2) * (p.1 - a.1)
theorem ge_x_rot (a b c : ge_P) : ge_x a b c = ge_x b c a := by unfold ge_x; grind
theorem ge_x_swap (a b c : ge_P) : ge_x b a c = - ge_x a b c := by unfold ge_x; grind
theorem ge_x_I (a b x y p : ge_P) (hp : p = x ∨ p = y) : ge_x a b p * (y.2 - x.2) = - (ge_x x y a * (b.2 - p.2) - ge_x x y b * (a.2 - p.2)) := by
  rcases hp with rfl | rfl <;> (unfold ge_x; grind)
theorem ge_x_D (a b x y : ge_P) : ge_x a b y - ge_x a b x = ge_x x y a - ge_x x y b := by unfold ge_x; grind
theorem ge_x_w1 (a b x y : ge_P) : (- ge_x x y b) * a.1 + ge_x x y a * b.1 = ge_x a b y * x.1 + (- ge_x a b x) * y.1 := by unfold ge_x; grind
theorem ge_x_w2 (a b x y : ge_P) : (- ge_x x y b) * a.2 + ge_x x y a * b.2 = ge_x a b y * x.2 + (- ge_x a b x) * y.2 := by unfold ge_x; grind
/-- the two segments have a point in common: weights -/
def ge_wt (a b x y : ge_P) (i j k l : Int) : Prop := 0 ≤ i ∧ 0 ≤ j ∧ 0 ≤ k ∧ 0 ≤ l ∧ 0 < i + j ∧ i + j = k + l ∧ i * a.1 + j * b.1 = k * x.1 + l * y.1 ∧ i * a.2 + j * b.2 = k * x.2 + l * y.2
def ge_meet (a b x y : ge_P) : Prop := ∃ i j k l : Int, ge_wt a b x y i j k l
theorem ge_meet_of {a b x y : ge_P} (h1 : ge_x x y b ≤ 0) (h2 : 0 ≤ ge_x x y a) (h3 : ge_x a b x ≤ 0) (h4 : 0 ≤ ge_x a b y) (h5 : ge_x x y b < ge_x x y a) : ge_meet a b x y := by
  have hD := ge_x_D a b x y
  refine ⟨- ge_x x y b, ge_x x y a, ge_x a b y, - ge_x a b x, by omega, by omega, by omega, by omega, by omega, by omega, ge_x_w1 a b x y, ge_x_w2 a b x y⟩
theorem ge_meet_swap {a b x y : ge_P} (h : ge_meet b a x y) : ge_meet a b x y := by
  obtain ⟨i, j, k, l, h1, h2, h3, h4, h5, h6, h7, h8⟩ := h
  exact ⟨j, i, k, l, h2, h1, h3, h4, by omega, by omega, by omega, by omega⟩
theorem ge_meet_symm {a b x y : ge_P} (h : ge_meet x y a b) : ge_meet a b x y := by
  obtain ⟨i, j, k, l, h1, h2, h3, h4, h5, h6, h7, h8⟩ := h
  exact ⟨k, l, i, j, h3, h4, h1, h2, by omega, by omega, by omega, by omega⟩
theorem ge_meet_of' {a b x y : ge_P} (h1 : ge_x x y a ≤ 0) (h2 : 0 ≤ ge_x x y b) (h3 : 0 ≤ ge_x a b x) (h4 : ge_x a b y ≤ 0) (h5 : ge_x x y a < ge_x x y b) : ge_meet a b x y := by
  have e1 := ge_x_swap a b x
  have e2 := ge_x_swap a b y
  exact ge_meet_swap (ge_meet_of h1 h2 (by omega) (by omega) h5)
/-- which edges cross the ray to the left -/
def ge_w (x a b : ge_P) : Int := if a.2 ≤ x.2 ∧ x.2 < b.2 ∧ ge_x a b x < 0 then 1 else if b.2 ≤ x.2 ∧ x.2 < a.2 ∧ 0 < ge_x a b x then -1 else 0
theorem ge_w_swap (x a b : ge_P) : ge_w x b a = - ge_w x a b := by
  have e := ge_x_swap a b x
  unfold ge_w
  grind
/-- between the rays -/
def ge_g (x y a : ge_P) : Int := if x.2 < a.2 ∧ a.2 ≤ y.2 ∧ 0 < ge_x x y a then 1 else 0
theorem ge_loc_bm {a b x y : ge_P} (hn : ¬ ge_meet a b x y) (h1 : a.2 ≤ x.2) (h2 : x.2 < b.2) (h3 : b.2 ≤ y.2) : (ge_x a b x < 0 ↔ 0 < ge_x x y b) := by
  have ix := ge_x_I a b x y x (.inl rfl)
  have iy := ge_x_I a b x y y (.inr rfl)
  have hD := ge_x_D a b x y
  constructor
  · intro hf
    rcases Int.lt_or_le 0 (ge_x x y b) with h | h
    · exact h
    · exfalso
      have p1 : 0 < (-ge_x a b x) * (y.2 - x.2) := Int.mul_pos (by omega) (by omega)
      have p2 : 0 ≤ (-ge_x x y b) * (x.2 - a.2) := Int.mul_nonneg (by omega) (by omega)
      have p3 : 0 < ge_x x y a := by
        rcases Int.lt_or_le 0 (ge_x x y a) with h' | h'
        · exact h'
        · have := Int.mul_nonneg (show 0 ≤ - ge_x x y a by omega) (show 0 ≤ b.2 - x.2 by omega)
          grind
      have p4 : 0 ≤ ge_x a b y := by
        rcases Int.lt_or_le (ge_x a b y) 0 with h' | h'
        · have q1 := Int.mul_pos (show 0 < - ge_x a b y by omega) (show 0 < y.2 - x.2 by omega)
          have q2 := Int.mul_nonneg (show 0 ≤ ge_x x y a by omega) (show 0 ≤ y.2 - b.2 by omega)
          have q3 := Int.mul_nonneg (show 0 ≤ - ge_x x y b by omega) (show 0 ≤ y.2 - a.2 by omega)
          grind
        · exact h'
      exact hn (ge_meet_of h (by omega) (by omega) p4 (by omega))
  · intro hb
    rcases Int.lt_or_le (ge_x a b x) 0 with h | h
    · exact h
    · exfalso
      have p1 : 0 ≤ (ge_x a b x) * (y.2 - x.2) := Int.mul_nonneg (by omega) (by omega)
      have p2 : 0 ≤ (ge_x x y b) * (x.2 - a.2) := Int.mul_nonneg (by omega) (by omega)
      have p3 : ge_x x y a ≤ 0 := by
        rcases Int.lt_or_le 0 (ge_x x y a) with h' | h'
        · have := Int.mul_pos h' (show 0 < b.2 - x.2 by omega)
          grind
        · exact h'
      have p4 : ge_x a b y ≤ 0 := by
        rcases Int.lt_or_le 0 (ge_x a b y) with h' | h'
        · have q1 := Int.mul_pos h' (show 0 < y.2 - x.2 by omega)
          have q2 := Int.mul_nonneg (show 0 ≤ - ge_x x y a by omega) (show 0 ≤ y.2 - b.2 by omega)
          have q3 := Int.mul_pos hb (show 0 < y.2 - a.2 by omega)
          grind
        · exact h'
      exact hn (ge_meet_of' p3 (by omega) (by omega) p4 (by omega))
theorem ge_loc_ba {a b x y : ge_P} (hn : ¬ ge_meet a b x y) (hxy : x.2 ≤ y.2) (h1 : a.2 ≤ x.2) (h2 : y.2 < b.2) : (ge_x a b x < 0 ↔ ge_x a b y < 0) := by
  have ix := ge_x_I a b x y x (.inl rfl)
  have iy := ge_x_I a b x y y (.inr rfl)
  have hD := ge_x_D a b x y
  constructor
  · intro hf
    rcases Int.lt_or_le (ge_x a b y) 0 with h | h
    · exact h
    · exfalso
      have p1 : 0 ≤ (-ge_x a b x) * (y.2 - x.2) := Int.mul_nonneg (by omega) (by omega)
      have p2 : 0 ≤ (ge_x a b y) * (y.2 - x.2) := Int.mul_nonneg (by omega) (by omega)
      have p3 : 0 ≤ ge_x x y a := by
        rcases Int.lt_or_le (ge_x x y a) 0 with h' | h'
        · have q1 := Int.mul_pos (show 0 < - ge_x x y a by omega) (show 0 < b.2 - x.2 by omega)
          have q2 := Int.mul_nonneg (show 0 ≤ - ge_x x y b by omega) (show 0 ≤ x.2 - a.2 by omega)
          grind
        · exact h'
      have p4 : ge_x x y b ≤ 0 := by
        rcases Int.lt_or_le 0 (ge_x x y b) with h' | h'
        · have q1 := Int.mul_pos (show 0 < ge_x x y a by omega) (show 0 < b.2 - y.2 by omega)
          have q2 := Int.mul_nonneg (show 0 ≤ ge_x x y b by omega) (show 0 ≤ y.2 - a.2 by omega)
          grind
        · exact h'
      exact hn (ge_meet_of p4 p3 (by omega) h (by omega))
  · intro hf
    rcases Int.lt_or_le (ge_x a b x) 0 with h | h
    · exact h
    · exfalso
      have p1 : 0 ≤ (ge_x a b x) * (y.2 - x.2) := Int.mul_nonneg (by omega) (by omega)
      have p2 : 0 ≤ (- ge_x a b y) * (y.2 - x.2) := Int.mul_nonneg (by omega) (by omega)
      have p3 : ge_x x y a ≤ 0 := by
        rcases Int.lt_or_le 0 (ge_x x y a) with h' | h'
        · have q1 := Int.mul_pos h' (show 0 < b.2 - x.2 by omega)
          have q2 := Int.mul_nonneg (show 0 ≤ ge_x x y b by omega) (show 0 ≤ x.2 - a.2 by omega)
          grind
        · exact h'
      have p4 : 0 ≤ ge_x x y b := by
        rcases Int.lt_or_le (ge_x x y b) 0 with h' | h'
        · have q1 := Int.mul_pos (show 0 < - ge_x x y a by omega) (show 0 < b.2 - y.2 by omega)
          have q2 := Int.mul_nonneg (show 0 ≤ - ge_x x y b by omega) (show 0 ≤ y.2 - a.2 by omega)
          grind
        · exact h'
      exact hn (ge_meet_of' p3 p4 h (by omega) (by omega))
theorem ge_loc_mm {a b x y : ge_P} (hn : ¬ ge_meet a b x y) (h1 : x.2 < a.2) (h2 : a.2 ≤ y.2) (h3 : x.2 < b.2) (h4 : b.2 ≤ y.2) (ha : 0 < ge_x x y a) : 0 < ge_x x y b := by
  have ix := ge_x_I a b x y x (.inl rfl)
  have iy := ge_x_I a b x y y (.inr rfl)
  rcases Int.lt_or_le 0 (ge_x x y b) with h | h
  · exact h
  · exfalso
    have p1 := Int.mul_pos ha (show 0 < b.2 - x.2 by omega)
    have p2 := Int.mul_nonneg (show 0 ≤ - ge_x x y b by omega) (show 0 ≤ a.2 - x.2 by omega)
    have p3 := Int.mul_nonneg (show 0 ≤ ge_x x y a by omega) (show 0 ≤ y.2 - b.2 by omega)
    have p4 := Int.mul_nonneg (show 0 ≤ - ge_x x y b by omega) (show 0 ≤ y.2 - a.2 by omega)
    have p5 : ge_x a b x ≤ 0 := by
      rcases Int.lt_or_le 0 (ge_x a b x) with h' | h'
      · have := Int.mul_pos h' (show 0 < y.2 - x.2 by omega)
        grind
      · exact h'
    have p6 : 0 ≤ ge_x a b y := by
      rcases Int.lt_or_le (ge_x a b y) 0 with h' | h'
      · have := Int.mul_pos (show 0 < - ge_x a b y by omega) (show 0 < y.2 - x.2 by omega)
        grind
      · exact h'
    exact hn (ge_meet_of h (by omega) p5 p6 (by omega))
theorem ge_loc_ma {a b x y : ge_P} (hn : ¬ ge_meet a b x y) (h1 : x.2 < a.2) (h2 : a.2 ≤ y.2) (h3 : y.2 < b.2) : (ge_x a b y < 0 ↔ 0 < ge_x x y a) := by
  have ix := ge_x_I a b x y x (.inl rfl)
  have iy := ge_x_I a b x y y (.inr rfl)
  constructor
  · intro hf
    rcases Int.lt_or_le 0 (ge_x x y a) with h | h
    · exact h
    · exfalso
      have p1 := Int.mul_pos (show 0 < - ge_x a b y by omega) (show 0 < y.2 - x.2 by omega)
      have p2 := Int.mul_nonneg (show 0 ≤ - ge_x x y a by omega) (show 0 ≤ b.2 - y.2 by omega)
      have p3 : 0 < ge_x x y b := by
        rcases Int.lt_or_le 0 (ge_x x y b) with h' | h'
        · exact h'
        · have := Int.mul_nonneg (show 0 ≤ - ge_x x y b by omega) (show 0 ≤ y.2 - a.2 by omega)
          grind
      have p4 : 0 ≤ ge_x a b x := by
        rcases Int.lt_or_le (ge_x a b x) 0 with h' | h'
        · have q1 := Int.mul_pos (show 0 < - ge_x a b x by omega) (show 0 < y.2 - x.2 by omega)
          have q2 := Int.mul_nonneg (show 0 ≤ - ge_x x y a by omega) (show 0 ≤ b.2 - x.2 by omega)
          have q3 := Int.mul_pos p3 (show 0 < a.2 - x.2 by omega)
          grind
        · exact h'
      exact hn (ge_meet_of' h (by omega) p4 (by omega) (by omega))
  · intro ha
    rcases Int.lt_or_le (ge_x a b y) 0 with h | h
    · exact h
    · exfalso
      have p1 := Int.mul_nonneg h (show 0 ≤ y.2 - x.2 by omega)
      have p2 := Int.mul_pos ha (show 0 < b.2 - y.2 by omega)
      have p3 : ge_x x y b ≤ 0 := by
        rcases Int.lt_or_le 0 (ge_x x y b) with h' | h'
        · have := Int.mul_nonneg (show 0 ≤ ge_x x y b by omega) (show 0 ≤ y.2 - a.2 by omega)
          grind
        · exact h'
      have p4 : ge_x a b x ≤ 0 := by
        rcases Int.lt_or_le 0 (ge_x a b x) with h' | h'
        · have q1 := Int.mul_pos h' (show 0 < y.2 - x.2 by omega)
          have q2 := Int.mul_pos ha (show 0 < b.2 - x.2 by omega)
          have q3 := Int.mul_nonneg (show 0 ≤ - ge_x x y b by omega) (show 0 ≤ a.2 - x.2 by omega)
          grind
        · exact h'
      exact hn (ge_meet_of p3 (by omega) p4 h (by omega))
theorem ge_loc_up {a b x y : ge_P} (hn : ¬ ge_meet a b x y) (hxy : x.2 ≤ y.2) (hab : a.2 ≤ b.2) : ge_w x a b - ge_w y a b = ge_g x y b - ge_g x y a := by
  rcases Int.lt_or_le x.2 a.2 with ha | ha
  · rcases Int.lt_or_le y.2 a.2 with ha' | ha'
    · unfold ge_w ge_g; grind
    · rcases Int.lt_or_le y.2 b.2 with hb' | hb'
      · have := ge_loc_ma hn ha ha' hb'
        unfold ge_w ge_g; grind
      · have h1 := ge_loc_mm hn ha ha' (by omega) hb'
        have h2 := ge_loc_mm (mt ge_meet_swap hn) (by omega) hb' ha ha'
        unfold ge_w ge_g; grind
  · rcases Int.lt_or_le x.2 b.2 with hb | hb
    · rcases Int.lt_or_le y.2 b.2 with hb' | hb'
      · have := ge_loc_ba hn hxy ha hb'
        unfold ge_w ge_g; grind
      · have := ge_loc_bm hn ha hb hb'
        unfold ge_w ge_g; grind
    · unfold ge_w ge_g; grind
theorem ge_loc {a b x y : ge_P} (hn : ¬ ge_meet a b x y) (hxy : x.2 ≤ y.2) : ge_w x a b - ge_w y a b = ge_g x y b - ge_g x y a := by
  rcases Int.le_total a.2 b.2 with h | h
  · exact ge_loc_up hn hxy h
  · have h1 := ge_loc_up (mt ge_meet_swap hn) hxy h
    have h2 := ge_w_swap x a b
    have h3 := ge_w_swap y a b
    omega
/-- an edge that goes from the left of the way from x to y to its right, between x and y -/
theorem ge_cross {a b x y : ge_P} (hxy : x.2 ≤ y.2) (ha : 0 < ge_x x y a) (hb : ge_x x y b < 0) (hf : ge_x a b x < 0) (hh : 0 < ge_x a b y) : ge_w x a b - ge_w y a b = ge_g x y b - ge_g x y a + 1 := by
  have ix := ge_x_I a b x y x (.inl rfl)
  have iy := ge_x_I a b x y y (.inr rfl)
  have p1 := Int.mul_nonneg (show 0 ≤ - ge_x a b x by omega) (show 0 ≤ y.2 - x.2 by omega)
  have p2 := Int.mul_nonneg (show 0 ≤ ge_x a b y by omega) (show 0 ≤ y.2 - x.2 by omega)
  rcases Int.lt_or_le x.2 a.2 with ha1 | ha1
  · rcases Int.lt_or_le y.2 a.2 with ha2 | ha2
    · -- a above
      rcases Int.lt_or_le y.2 b.2 with hb2 | hb2
      · exfalso
        have q1 := Int.mul_pos ha (show 0 < b.2 - y.2 by omega)
        have q2 := Int.mul_pos (show 0 < - ge_x x y b by omega) (show 0 < a.2 - y.2 by omega)
        grind
      · unfold ge_w ge_g; grind
    · unfold ge_w ge_g; grind
  · -- a below
    rcases Int.lt_or_le x.2 b.2 with hb1 | hb1
    · unfold ge_w ge_g; grind
    · exfalso
      have q1 := Int.mul_nonneg (show 0 ≤ ge_x x y a by omega) (show 0 ≤ x.2 - b.2 by omega)
      have q2 := Int.mul_nonneg (show 0 ≤ - ge_x x y b by omega) (show 0 ≤ x.2 - a.2 by omega)
      have q3 : x.2 < y.2 ∨ x.2 = y.2 := by omega
      rcases q3 with q3 | q3
      · have q4 := Int.mul_pos (show 0 < - ge_x a b x by omega) (show 0 < y.2 - x.2 by omega)
        grind
      · have e1 : ge_x x y a = (y.1 - x.1) * (a.2 - x.2) := by unfold ge_x; grind
        have e2 : ge_x x y b = (y.1 - x.1) * (b.2 - x.2) := by unfold ge_x; grind
        rcases Int.lt_or_le x.1 y.1 with q5 | q5
        · have := Int.mul_nonneg (show 0 ≤ y.1 - x.1 by omega) (show 0 ≤ x.2 - a.2 by omega)
          grind
        · have := Int.mul_nonneg (show 0 ≤ x.1 - y.1 by omega) (show 0 ≤ x.2 - b.2 by omega)
          grind
/-- an edge from a place on the way to its left -/
def ge_g2 (x y a : ge_P) : Int := if x.2 < a.2 ∧ a.2 ≤ y.2 ∧ 0 ≤ ge_x x y a then 1 else 0
theorem ge_thruL {p a x y : ge_P} (h1 : x.2 < p.2) (h2 : p.2 < y.2) (hp : ge_x x y p = 0) (ha : 0 < ge_x x y a) : ge_w x p a - ge_w y p a = ge_g2 x y a - ge_g2 x y p := by
  have ix := ge_x_I p a x y x (.inl rfl)
  have iy := ge_x_I p a x y y (.inr rfl)
  have p1 := Int.mul_pos ha (show 0 < p.2 - x.2 by omega)
  have p2 := Int.mul_pos ha (show 0 < y.2 - p.2 by omega)
  have q1 : 0 < ge_x p a x := by
    rcases Int.lt_or_le 0 (ge_x p a x) with h | h
    · exact h
    · have := Int.mul_nonneg (show 0 ≤ - ge_x p a x by omega) (show 0 ≤ y.2 - x.2 by omega)
      grind
  have q2 : ge_x p a y < 0 := by
    rcases Int.lt_or_le (ge_x p a y) 0 with h | h
    · exact h
    · have := Int.mul_nonneg h (show 0 ≤ y.2 - x.2 by omega)
      grind
  unfold ge_w ge_g2; grind
theorem ge_thruR {p a x y : ge_P} (h1 : x.2 < p.2) (h2 : p.2 < y.2) (hp : ge_x x y p = 0) (ha : ge_x x y a < 0) : ge_w x p a - ge_w y p a = ge_g x y a - ge_g x y p := by
  have ix := ge_x_I p a x y x (.inl rfl)
  have iy := ge_x_I p a x y y (.inr rfl)
  have p1 := Int.mul_pos (show 0 < - ge_x x y a by omega) (show 0 < p.2 - x.2 by omega)
  have p2 := Int.mul_pos (show 0 < - ge_x x y a by omega) (show 0 < y.2 - p.2 by omega)
  have q1 : ge_x p a x < 0 := by
    rcases Int.lt_or_le (ge_x p a x) 0 with h | h
    · exact h
    · have := Int.mul_nonneg h (show 0 ≤ y.2 - x.2 by omega)
      grind
  have q2 : 0 < ge_x p a y := by
    rcases Int.lt_or_le 0 (ge_x p a y) with h | h
    · exact h
    · have := Int.mul_nonneg (show 0 ≤ - ge_x p a y by omega) (show 0 ≤ y.2 - x.2 by omega)
      grind
  unfold ge_w ge_g; grind
/-- a point of the segment's height on its line is on it -/
theorem ge_meet_on {a b x y : ge_P} (h1 : x.2 < y.2) (h2 : x.2 ≤ a.2) (h3 : a.2 ≤ y.2) (h : ge_x x y a = 0) : ge_meet a b x y := by
  refine ⟨y.2 - x.2, 0, y.2 - a.2, a.2 - x.2, by omega, by omega, by omega, by omega, by omega, by omega, ?_, ?_⟩ <;> (unfold ge_x at h; grind)
theorem ge_g2_eq {a b x y : ge_P} (hn : ¬ ge_meet a b x y) : ge_g2 x y a = ge_g x y a := by
  have : x.2 < a.2 → a.2 ≤ y.2 → ge_x x y a ≠ 0 := fun h1 h2 h3 => hn (ge_meet_on (by omega) (by omega) h2 h3)
  unfold ge_g2 ge_g; grind
/-! chains -/
def ge_E : List ge_P → List (ge_P × ge_P)
  | a :: b :: l => (a, b) :: ge_E (b :: l)
  | _ => []
def ge_C (x : ge_P) : List ge_P → Int
  | a :: b :: l => ge_w x a b + ge_C x (b :: l)
  | _ => 0
theorem ge_tele {x y : ge_P} (g : ge_P → Int) : ∀ (l : List ge_P) (p q : ge_P), (∀ e ∈ ge_E (p :: l ++ [q]), ge_w x e.1 e.2 - ge_w y e.1 e.2 = g e.2 - g e.1) → ge_C x (p :: l ++ [q]) - ge_C y (p :: l ++ [q]) = g q - g p
  | [], p, q, h => by
    have := h (p, q) (by simp [ge_E])
    simp [ge_C]
    simpa using this
  | a :: l, p, q, h => by
    have h1 := h (p, a) (by simp [ge_E])
    have h2 := ge_tele g l a q (fun e he => h e (by simp [ge_E] at he ⊢; exact Or.inr he))
    simp [ge_C] at h1 h2 ⊢
    omega
theorem ge_C_app (x : ge_P) : ∀ (l1 l2 : List ge_P) (q : ge_P), ge_C x (l1 ++ q :: l2) = ge_C x (l1 ++ [q]) + ge_C x (q :: l2)
  | [], l2, q => by simp [ge_C]
  | [a], l2, q => by simp [ge_C]
  | a :: b :: l, l2, q => by
    have := ge_C_app x (b :: l) l2 q
    simp [ge_C] at this ⊢
    omega
theorem ge_E_app : ∀ (l1 l2 : List ge_P) (q : ge_P), ge_E (l1 ++ q :: l2) = ge_E (l1 ++ [q]) ++ ge_E (q :: l2)
  | [], l2, q => by simp [ge_E]
  | [a], l2, q => by simp [ge_E]
  | a :: b :: l, l2, q => by
    have := ge_E_app (b :: l) l2 q
    simp [ge_E] at this ⊢
    exact this
/-- the closed chain of a polygon -/
def ge_cl : List ge_P → List ge_P
  | [] => []
  | p :: l => p :: l ++ [p]
def ge_W (x : ge_P) (P : List ge_P) : Int := ge_C x (ge_cl P)
abbrev ge_Ed (P : List ge_P) : List (ge_P × ge_P) := ge_E (ge_cl P)
theorem ge_J0 {x y : ge_P} {P : List ge_P} (g : ge_P → Int) (h : ∀ e ∈ ge_Ed P, ge_w x e.1 e.2 - ge_w y e.1 e.2 = g e.2 - g e.1) : ge_W x P = ge_W y P := by
  cases P with
  | nil => rfl
  | cons p l =>
    have := ge_tele g l p p h
    simp [ge_W, ge_cl] at this ⊢
    omega
theorem ge_meet_swap2 {a b x y : ge_P} (h : ge_meet a b y x) : ge_meet a b x y := ge_meet_symm (ge_meet_swap (ge_meet_symm h))
/-- along a segment that doesn't touch the polygon -/
theorem ge_J1 {x y : ge_P} {P : List ge_P} (h : ∀ e ∈ ge_Ed P, ¬ ge_meet e.1 e.2 x y) : ge_W x P = ge_W y P := by
  rcases Int.le_total x.2 y.2 with hxy | hxy
  · exact ge_J0 (ge_g x y) (fun e he => ge_loc (h e he) hxy)
  · exact (ge_J0 (ge_g y x) (fun e he => ge_loc (fun z => h e he (ge_meet_swap2 z)) hxy)).symm
/-- below all -/
theorem ge_W_low {x : ge_P} {P : List ge_P} (h : ∀ v ∈ P, x.2 < v.2 ∨ (x.2 = v.2 ∧ x.1 < v.1)) : ge_W x P = 0 := by
  have key : ∀ l : List ge_P, (∀ v ∈ l, x.2 < v.2 ∨ (x.2 = v.2 ∧ x.1 < v.1)) → ge_C x l = 0 := by
    intro l
    induction l with
    | nil => intro _; rfl
    | cons a l ih =>
      intro hl
      cases l with
      | nil => rfl
      | cons b l =>
        have h1 := ih (fun v hv => hl v (List.mem_cons_of_mem _ hv))
        have ha := hl a (by simp)
        have hb := hl b (by simp)
        have e : ge_x a b x = (b.1 - a.1) * (x.2 - a.2) + (b.2 - a.2) * (a.1 - x.1) := by unfold ge_x; grind
        have h2 : ge_w x a b = 0 := by
          unfold ge_w
          split
          · rename_i hc
            have e2 : x.2 - a.2 = 0 := by omega
            have := Int.mul_pos (show 0 < b.2 - a.2 by omega) (show 0 < a.1 - x.1 by omega)
            rw [e2] at e
            omega
          · split
            · rename_i hc
              have e3 : ge_x a b x = (b.1 - a.1) * (x.2 - b.2) + (b.2 - a.2) * (b.1 - x.1) := by unfold ge_x; grind
              have e2 : x.2 - b.2 = 0 := by omega
              have := Int.mul_pos (show 0 < a.2 - b.2 by omega) (show 0 < b.1 - x.1 by omega)
              rw [e2] at e3
              grind
            · rfl
        simp [ge_C]
        omega
  cases P with
  | nil => rfl
  | cons p l => exact key _ (fun v hv => h v (by simp [ge_cl] at hv ⊢; grind))
/-! a triangle -/
theorem ge_bary (a b c x : ge_P) : ge_x b c x + ge_x c a x + ge_x a b x = ge_x a b c ∧ ge_x b c x * (a.2 - x.2) + ge_x c a x * (b.2 - x.2) + ge_x a b x * (c.2 - x.2) = 0 ∧ ge_x b c x * (a.1 - x.1) + ge_x c a x * (b.1 - x.1) + ge_x a b x * (c.1 - x.1) = 0 := by
  unfold ge_x; refine ⟨?_, ?_, ?_⟩ <;> grind
def ge_TW (x a b c : ge_P) : Int := ge_w x a b + ge_w x b c + ge_w x c a
def ge_TQ (x a b c : ge_P) : Prop := (ge_x b c x < 0 ∨ ge_x c a x < 0 ∨ ge_x a b x < 0 → ge_TW x a b c = 0) ∧ (0 < ge_x b c x → 0 < ge_x c a x → 0 < ge_x a b x → ge_TW x a b c = -1) ∧ -1 ≤ ge_TW x a b c ∧ ge_TW x a b c ≤ 0
theorem ge_TQ_rot {x a b c : ge_P} (h : ge_TQ x b c a) : ge_TQ x a b c := by
  unfold ge_TQ ge_TW at *
  grind
theorem ge_tri_b {x a b c : ge_P} (hD : 0 < ge_x a b c) (h1 : a.2 ≤ x.2) (h2 : x.2 < b.2) (h3 : x.2 < c.2) : ge_TQ x a b c := by
  obtain ⟨e1, e2, -⟩ := ge_bary a b c x
  have n1 : ge_x a b x < 0 → ge_x c a x ≤ 0 → False := by
    intro g1 g2
    have q1 := Int.mul_pos (show 0 < - ge_x a b x by omega) (show 0 < c.2 - x.2 by omega)
    have q2 := Int.mul_nonneg (show 0 ≤ - ge_x c a x by omega) (show 0 ≤ b.2 - x.2 by omega)
    have q3 := Int.mul_nonneg (show 0 ≤ ge_x b c x by omega) (show 0 ≤ x.2 - a.2 by omega)
    grind
  have n2 : ge_x b c x < 0 → 0 ≤ ge_x c a x → 0 ≤ ge_x a b x → False := by
    intro g1 g2 g3
    have q1 := Int.mul_nonneg (show 0 ≤ - ge_x b c x by omega) (show 0 ≤ x.2 - a.2 by omega)
    have q2 := Int.mul_nonneg g2 (show 0 ≤ b.2 - x.2 by omega)
    have q3 := Int.mul_nonneg g3 (show 0 ≤ c.2 - x.2 by omega)
    have : 0 < ge_x c a x ∨ 0 < ge_x a b x := by omega
    rcases this with h | h
    · have := Int.mul_pos h (show 0 < b.2 - x.2 by omega)
      grind
    · have := Int.mul_pos h (show 0 < c.2 - x.2 by omega)
      grind
  have w1 : ge_w x a b = if ge_x a b x < 0 then 1 else 0 := by unfold ge_w; grind
  have w2 : ge_w x b c = 0 := by unfold ge_w; grind
  have w3 : ge_w x c a = if 0 < ge_x c a x then -1 else 0 := by unfold ge_w; grind
  unfold ge_TQ ge_TW
  rw [w1, w2, w3]
  grind
theorem ge_tri_a {x a b c : ge_P} (hD : 0 < ge_x a b c) (h1 : x.2 < a.2) (h2 : b.2 ≤ x.2) (h3 : c.2 ≤ x.2) : ge_TQ x a b c := by
  obtain ⟨e1, e2, -⟩ := ge_bary a b c x
  have n1 : ge_x c a x < 0 → ge_x a b x ≤ 0 → False := by
    intro g1 g2
    have q1 := Int.mul_nonneg (show 0 ≤ - ge_x a b x by omega) (show 0 ≤ x.2 - c.2 by omega)
    have q2 := Int.mul_nonneg (show 0 ≤ - ge_x c a x by omega) (show 0 ≤ x.2 - b.2 by omega)
    have q3 := Int.mul_pos (show 0 < ge_x b c x by omega) (show 0 < a.2 - x.2 by omega)
    grind
  have n2 : ge_x b c x < 0 → 0 ≤ ge_x c a x → 0 ≤ ge_x a b x → False := by
    intro g1 g2 g3
    have q1 := Int.mul_pos (show 0 < - ge_x b c x by omega) (show 0 < a.2 - x.2 by omega)
    have q2 := Int.mul_nonneg g2 (show 0 ≤ x.2 - b.2 by omega)
    have q3 := Int.mul_nonneg g3 (show 0 ≤ x.2 - c.2 by omega)
    grind
  have w1 : ge_w x a b = if 0 < ge_x a b x then -1 else 0 := by unfold ge_w; grind
  have w2 : ge_w x b c = 0 := by unfold ge_w; grind
  have w3 : ge_w x c a = if ge_x c a x < 0 then 1 else 0 := by unfold ge_w; grind
  unfold ge_TQ ge_TW
  rw [w1, w2, w3]
  grind
theorem ge_tri {x a b c : ge_P} (hD : 0 < ge_x a b c) : ge_TQ x a b c := by
  have hD1 : 0 < ge_x b c a := by rw [← ge_x_rot]; exact hD
  have hD2 : 0 < ge_x c a b := by rw [← ge_x_rot]; exact hD1
  have w0 : (a.2 ≤ x.2 ∧ b.2 ≤ x.2 ∧ c.2 ≤ x.2) ∨ (x.2 < a.2 ∧ x.2 < b.2 ∧ x.2 < c.2) → ge_TQ x a b c := by
    intro h
    have w1 : ge_w x a b = 0 := by unfold ge_w; grind
    have w2 : ge_w x b c = 0 := by unfold ge_w; grind
    have w3 : ge_w x c a = 0 := by unfold ge_w; grind
    have : ge_TW x a b c = 0 := by unfold ge_TW; omega
    obtain ⟨e1, e2, -⟩ := ge_bary a b c x
    unfold ge_TQ
    rw [this]
    refine ⟨fun _ => rfl, fun g1 g2 g3 => ?_, by omega, by omega⟩
    exfalso
    rcases h with h | h
    · have q1 := Int.mul_nonneg (show 0 ≤ ge_x b c x by omega) (show 0 ≤ x.2 - a.2 by omega)
      have q2 := Int.mul_nonneg (show 0 ≤ ge_x c a x by omega) (show 0 ≤ x.2 - b.2 by omega)
      have q3 := Int.mul_nonneg (show 0 ≤ ge_x a b x by omega) (show 0 ≤ x.2 - c.2 by omega)
      have r1 : x.2 - a.2 = 0 := by
        rcases (show x.2 - a.2 = 0 ∨ 0 < x.2 - a.2 by omega) with h | h
        · exact h
        · have := Int.mul_pos g1 h
          grind
      have r2 : x.2 - b.2 = 0 := by
        rcases (show x.2 - b.2 = 0 ∨ 0 < x.2 - b.2 by omega) with h | h
        · exact h
        · have := Int.mul_pos g2 h
          grind
      have r3 : x.2 - c.2 = 0 := by
        rcases (show x.2 - c.2 = 0 ∨ 0 < x.2 - c.2 by omega) with h | h
        · exact h
        · have := Int.mul_pos g3 h
          grind
      unfold ge_x at hD
      grind
    · have q1 := Int.mul_pos g1 (show 0 < a.2 - x.2 by omega)
      have q2 := Int.mul_pos g2 (show 0 < b.2 - x.2 by omega)
      have q3 := Int.mul_pos g3 (show 0 < c.2 - x.2 by omega)
      omega
  rcases Int.lt_or_le x.2 a.2 with ha | ha <;> rcases Int.lt_or_le x.2 b.2 with hb | hb <;> rcases Int.lt_or_le x.2 c.2 with hc | hc
  · exact w0 (.inr ⟨ha, hb, hc⟩)
  · exact ge_TQ_rot (ge_TQ_rot (ge_tri_b hD2 hc ha hb))
  · exact ge_TQ_rot (ge_tri_b hD1 hb hc ha)
  · exact ge_tri_a hD ha hb hc
  · exact ge_tri_b hD ha hb hc
  · exact ge_TQ_rot (ge_tri_a hD1 hb hc ha)
  · exact ge_TQ_rot (ge_TQ_rot (ge_tri_a hD2 hc ha hb))
  · exact w0 (.inl ⟨ha, hb, hc⟩)
/-! simple polygons -/
def ge_ok (e f : ge_P × ge_P) : Prop := ∀ i j k l : Int, ge_wt e.1 e.2 f.1 f.2 i j k l → (i = 0 ∧ l = 0 ∧ e.2 = f.1) ∨ (j = 0 ∧ k = 0 ∧ e.1 = f.2)
def ge_S (P : List ge_P) : Prop := P.Nodup ∧ 3 ≤ P.length ∧ ∀ e ∈ ge_Ed P, ∀ f ∈ ge_Ed P, e ≠ f → ge_ok e f
def ge_off (x : ge_P) (P : List ge_P) : Prop := ∀ e ∈ ge_Ed P, ¬ ge_meet e.1 e.2 x x
/-- a segment and an edge share no more than an end of both -/
def ge_cf (u v : ge_P) (e : ge_P × ge_P) : Prop := ∀ i j k l : Int, ge_wt u v e.1 e.2 i j k l → (i = 0 ∧ ((v = e.1 ∧ l = 0) ∨ (v = e.2 ∧ k = 0))) ∨ (j = 0 ∧ ((u = e.1 ∧ l = 0) ∨ (u = e.2 ∧ k = 0)))
theorem ge_wt_symm {a b x y : ge_P} {i j k l : Int} (h : ge_wt a b x y i j k l) : ge_wt x y a b k l i j := by
  obtain ⟨h1, h2, h3, h4, h5, h6, h7, h8⟩ := h
  exact ⟨h3, h4, h1, h2, by omega, by omega, by omega, by omega⟩
theorem ge_wt_swap {a b x y : ge_P} {i j k l : Int} (h : ge_wt a b x y i j k l) : ge_wt b a x y j i k l := by
  obtain ⟨h1, h2, h3, h4, h5, h6, h7, h8⟩ := h
  exact ⟨h2, h1, h3, h4, by omega, by omega, by omega, by omega⟩
theorem ge_wt_swap2 {a b x y : ge_P} {i j k l : Int} (h : ge_wt a b x y i j k l) : ge_wt a b y x i j l k := ge_wt_symm (ge_wt_swap (ge_wt_symm h))
theorem ge_ok_symm {e f : ge_P × ge_P} (h : ge_ok e f) : ge_ok f e := by
  intro i j k l hw
  rcases h k l i j (ge_wt_symm hw) with ⟨h1, h2, h3⟩ | ⟨h1, h2, h3⟩
  · exact .inr ⟨h2, h1, h3.symm⟩
  · exact .inl ⟨h2, h1, h3.symm⟩
theorem ge_ok_cf {e f : ge_P × ge_P} (h : ge_ok e f) : ge_cf e.1 e.2 f := by
  intro i j k l hw
  rcases h i j k l hw with ⟨h1, h2, h3⟩ | ⟨h1, h2, h3⟩
  · exact .inl ⟨h1, .inl ⟨h3, h2⟩⟩
  · exact .inr ⟨h1, .inr ⟨h3, h2⟩⟩
theorem ge_cf_swap {u v : ge_P} {e : ge_P × ge_P} (h : ge_cf u v e) : ge_cf v u e := by
  intro i j k l hw
  rcases h j i k l (ge_wt_swap hw) with h | h
  · exact .inr h
  · exact .inl h
theorem ge_E_mem : ∀ {l : List ge_P} {e : ge_P × ge_P}, e ∈ ge_E l → e.1 ∈ l ∧ e.2 ∈ l
  | [], e, h => by simp [ge_E] at h
  | [a], e, h => by simp [ge_E] at h
  | a :: b :: l, e, h => by
    simp [ge_E] at h
    rcases h with h | h
    · subst h; simp
    · have := ge_E_mem h
      exact ⟨List.mem_cons_of_mem _ this.1, List.mem_cons_of_mem _ this.2⟩
theorem ge_Ed_mem {P : List ge_P} {e : ge_P × ge_P} (h : e ∈ ge_Ed P) : e.1 ∈ P ∧ e.2 ∈ P := by
  cases P with
  | nil => simp [ge_Ed, ge_cl, ge_E] at h
  | cons p l =>
    have := ge_E_mem h
    simp [ge_cl] at this
    simp; grind
theorem ge_E_succ : ∀ (l : List ge_P) (q : ge_P) {v : ge_P}, v ∈ l → ∃ w, (v, w) ∈ ge_E (l ++ [q])
  | [], q, v, h => by simp at h
  | [a], q, v, h => by simp at h; subst h; exact ⟨q, by simp [ge_E]⟩
  | a :: b :: l, q, v, h => by
    rcases List.mem_cons.mp h with h | h
    · subst h; exact ⟨b, by simp [ge_E]⟩
    · obtain ⟨w, hw⟩ := ge_E_succ (b :: l) q h
      exact ⟨w, by simp [ge_E] at hw ⊢; exact .inr hw⟩
theorem ge_Ed_succ {P : List ge_P} {v : ge_P} (h : v ∈ P) : ∃ w, (v, w) ∈ ge_Ed P := by
  cases P with
  | nil => simp at h
  | cons p l => exact ge_E_succ (p :: l) p h
theorem ge_E_ne : ∀ {l : List ge_P} {e : ge_P × ge_P}, l.Nodup → e ∈ ge_E l → e.1 ≠ e.2
  | [], e, _, h => by simp [ge_E] at h
  | [a], e, _, h => by simp [ge_E] at h
  | a :: b :: l, e, hn, h => by
    simp [ge_E] at h
    rcases h with h | h
    · subst h
      simp at hn ⊢
      exact hn.1.1
    · exact ge_E_ne (List.nodup_cons.mp hn).2 h
/-- the edges of a polygon that is read from a place p on: its first, those in between, its last -/
theorem ge_Ed_cons (p b a : ge_P) (M : List ge_P) : ge_Ed (p :: b :: M ++ [a]) = (p, b) :: (ge_E (b :: M ++ [a]) ++ [(a, p)]) := by
  have h := ge_E_app (b :: M) [p] a
  simp [ge_Ed, ge_cl, ge_E] at h ⊢
  exact h
theorem ge_S_ne {P : List ge_P} (h : ge_S P) {e : ge_P × ge_P} (he : e ∈ ge_Ed P) : e.1 ≠ e.2 := by
  obtain ⟨h1, h2, -⟩ := h
  match P, h1, h2, he with
  | p :: b :: L, h1, h2, he =>
    rcases List.eq_nil_or_concat L with h | ⟨M, a, h⟩
    · subst h; simp at h2
    · subst h
      rw [List.concat_eq_append] at *
      have e0 : p :: b :: (M ++ [a]) = p :: b :: M ++ [a] := by simp
      rw [e0, ge_Ed_cons] at he
      simp only [List.mem_cons, List.mem_append, List.not_mem_nil, or_false] at he
      rcases he with he | he | he
      · subst he; simp at h1 ⊢; exact h1.1.1
      · exact ge_E_ne (by simp at h1 ⊢; grind) he
      · subst he; simp at h1 ⊢; grind
/-- a corner on an edge is its end -/
theorem ge_V {P : List ge_P} (h : ge_S P) {v : ge_P} (hv : v ∈ P) {e : ge_P × ge_P} (he : e ∈ ge_Ed P) {i j k l : Int} (hw : ge_wt v v e.1 e.2 i j k l) : (v = e.1 ∧ l = 0) ∨ (v = e.2 ∧ k = 0) := by
  obtain ⟨w, hf⟩ := ge_Ed_succ hv
  obtain ⟨h1, h2, h3, h4, h5, h6, h7, h8⟩ := hw
  by_cases hfe : (v, w) = e
  · left
    subst hfe
    refine ⟨rfl, ?_⟩
    have hne := ge_S_ne h hf
    rcases (show l = 0 ∨ 0 < l by omega) with hl | hl
    · exact hl
    · exfalso
      apply hne
      simp at h7 h8
      have a1 : l * (w.1 - v.1) = 0 := by grind
      have a2 : l * (w.2 - v.2) = 0 := by grind
      rcases Int.mul_eq_zero.mp a1 with a1 | a1 <;> rcases Int.mul_eq_zero.mp a2 with a2 | a2 <;> first | omega | skip
      exact Prod.ext (by show v.1 = w.1; omega) (by show v.2 = w.2; omega)
  · have := h.2.2 _ hf _ he hfe (i + j) 0 k l ⟨by omega, by omega, h3, h4, by omega, by omega, by simp; grind, by simp; grind⟩
    rcases this with ⟨g, -, -⟩ | ⟨-, g1, g2⟩
    · omega
    · exact .inr ⟨g2, g1⟩
/-! leaving a triangle: a point of it (of the edge from c to d, with weights k, l), and c beyond -/
def ge_in (a p b x : ge_P) : Prop := 0 ≤ ge_x a p x ∧ 0 ≤ ge_x p b x ∧ 0 ≤ ge_x b a x
theorem ge_X1 {a p b c d : ge_P} {k l : Int} (hD : 0 < ge_x a p b) (hk : 0 ≤ k) (hl : 0 ≤ l) (hkl : 0 < k + l)
    (p1 : 0 ≤ k * ge_x a p c + l * ge_x a p d) (p2 : 0 ≤ k * ge_x p b c + l * ge_x p b d) (p3 : 0 ≤ k * ge_x b a c + l * ge_x b a d)
    (c1 : ge_x a p c < 0) (c3 : 0 ≤ ge_x b a c) (cc : (k * ge_x p b c + l * ge_x p b d) * ge_x a p c ≤ (k * ge_x a p c + l * ge_x a p d) * ge_x p b c) :
    ge_wt a p c d (- ge_x a p c * (k * ge_x p b c + l * ge_x p b d) + (k * ge_x a p c + l * ge_x a p d) * ge_x p b c) (- ge_x a p c * (k * ge_x b a c + l * ge_x b a d) + (k * ge_x a p c + l * ge_x a p d) * ge_x b a c)
      (ge_x a p b * (- ge_x a p c * k + (k * ge_x a p c + l * ge_x a p d))) (ge_x a p b * (- ge_x a p c * l)) := by
  have q1 := Int.mul_nonneg (show 0 ≤ - ge_x a p c by omega) p3
  have q2 := Int.mul_nonneg p1 c3
  have q3 := Int.mul_nonneg (show 0 ≤ - ge_x a p c by omega) hl
  have q4 := Int.mul_nonneg (show 0 ≤ - ge_x a p c by omega) hk
  have q5 := Int.mul_nonneg (show 0 ≤ ge_x a p b by omega) q3
  have q6 := Int.mul_nonneg (show 0 ≤ ge_x a p b by omega) (show 0 ≤ - ge_x a p c * k + (k * ge_x a p c + l * ge_x a p d) by omega)
  have q7 := Int.mul_pos (show 0 < - ge_x a p c by omega) hkl
  have q8 : 0 < - ge_x a p c * k + (k * ge_x a p c + l * ge_x a p d) + - ge_x a p c * l := by grind
  have q9 := Int.mul_pos hD q8
  have s1 := (ge_bary a p b c).1
  have s2 := (ge_bary a p b d).1
  have hsum : (- ge_x a p c * (k * ge_x p b c + l * ge_x p b d) + (k * ge_x a p c + l * ge_x a p d) * ge_x p b c) + (- ge_x a p c * (k * ge_x b a c + l * ge_x b a d) + (k * ge_x a p c + l * ge_x a p d) * ge_x b a c) = ge_x a p b * (- ge_x a p c * k + (k * ge_x a p c + l * ge_x a p d) + - ge_x a p c * l) := by
    have e3 : ge_x b a c = ge_x a p b - ge_x p b c - ge_x a p c := by omega
    have e4 : ge_x b a d = ge_x a p b - ge_x p b d - ge_x a p d := by omega
    rw [e3, e4]
    clear q1 q2 q3 q4 q5 q6 q7 q8 q9 s1 s2 p1 p2 p3 c1 c3 cc e3 e4 hD hk hl hkl
    generalize ge_x a p b = D, ge_x a p c = A, ge_x a p d = B, ge_x p b c = E, ge_x p b d = F
    grind
  refine ⟨?_, by omega, q6, q5, by omega, ?_, ?_, ?_⟩
  · have : - ge_x a p c * (k * ge_x p b c + l * ge_x p b d) = - ((k * ge_x p b c + l * ge_x p b d) * ge_x a p c) := by rw [Int.neg_mul, Int.mul_comm]
    omega
  · rw [hsum, ← Int.mul_add]
  · clear hsum q1 q2 q3 q4 q5 q6 q7 q8 q9 s1 s2 p1 p2 p3 c1 c3 cc hD hk hl hkl
    unfold ge_x; grind
  · clear hsum q1 q2 q3 q4 q5 q6 q7 q8 q9 s1 s2 p1 p2 p3 c1 c3 cc hD hk hl hkl
    unfold ge_x; grind
def ge_m (x : ge_P) : ge_P := (- x.1, x.2)
theorem ge_x_m (a b c : ge_P) : ge_x (ge_m a) (ge_m b) (ge_m c) = - ge_x a b c := by unfold ge_x ge_m; grind
theorem ge_wt_m {a b x y : ge_P} {i j k l : Int} (h : ge_wt (ge_m a) (ge_m b) (ge_m x) (ge_m y) i j k l) : ge_wt a b x y i j k l := by
  obtain ⟨h1, h2, h3, h4, h5, h6, h7, h8⟩ := h
  simp only [ge_m] at h7 h8
  exact ⟨h1, h2, h3, h4, h5, h6, by grind, h8⟩
theorem ge_X2 {a p b c d : ge_P} {k l : Int} (hD : 0 < ge_x a p b) (hk : 0 ≤ k) (hl : 0 ≤ l) (hkl : 0 < k + l)
    (p1 : 0 ≤ k * ge_x a p c + l * ge_x a p d) (p2 : 0 ≤ k * ge_x p b c + l * ge_x p b d) (p3 : 0 ≤ k * ge_x b a c + l * ge_x b a d)
    (c1 : ge_x p b c < 0) (c3 : 0 ≤ ge_x b a c) (cc : (k * ge_x a p c + l * ge_x a p d) * ge_x p b c ≤ (k * ge_x p b c + l * ge_x p b d) * ge_x a p c) :
    ge_wt b p c d (- ge_x p b c * (k * ge_x a p c + l * ge_x a p d) + (k * ge_x p b c + l * ge_x p b d) * ge_x a p c) (- ge_x p b c * (k * ge_x b a c + l * ge_x b a d) + (k * ge_x p b c + l * ge_x p b d) * ge_x b a c)
      (ge_x a p b * (- ge_x p b c * k + (k * ge_x p b c + l * ge_x p b d))) (ge_x a p b * (- ge_x p b c * l)) := by
  have e : ∀ u v w : ge_P, ge_x (ge_m u) (ge_m v) (ge_m w) = ge_x v u w := fun u v w => by rw [ge_x_m, ge_x_swap]; omega
  have e0 : ge_x (ge_m b) (ge_m p) (ge_m a) = ge_x a p b := by rw [e, ge_x_rot a p b]
  apply ge_wt_m
  have := ge_X1 (a := ge_m b) (p := ge_m p) (b := ge_m a) (c := ge_m c) (d := ge_m d) (k := k) (l := l) (by rw [e0]; exact hD) hk hl hkl
    (by rw [e, e]; exact p2) (by rw [e, e]; exact p1) (by rw [e, e]; exact p3) (by rw [e]; exact c1) (by rw [e]; exact c3) (by rw [e, e, e, e]; exact cc)
  rw [e, e, e, e, e, e, e0] at this
  exact this
theorem ge_swap_in {P : List ge_P} (hP : ge_S P) {f e : ge_P × ge_P} (hf : f ∈ ge_Ed P) (he : e ∈ ge_Ed P) (hfe : f ≠ e) {c d : ge_P} (hcd : (c = e.1 ∧ d = e.2) ∨ (c = e.2 ∧ d = e.1)) {i j k l : Int} (hw : ge_wt f.1 f.2 c d i j k l) :
    (i = 0 ∧ (f.2 = c ∨ f.2 = d)) ∨ (j = 0 ∧ (f.1 = c ∨ f.1 = d)) := by
  have hok := hP.2.2 f hf e he hfe
  rcases hcd with ⟨h1, h2⟩ | ⟨h1, h2⟩ <;> subst h1 <;> subst h2
  · rcases hok _ _ _ _ hw with ⟨g1, -, g3⟩ | ⟨g1, -, g3⟩
    · exact .inl ⟨g1, .inl g3⟩
    · exact .inr ⟨g1, .inr g3⟩
  · rcases hok _ _ _ _ (ge_wt_swap2 hw) with ⟨g1, -, g3⟩ | ⟨g1, -, g3⟩
    · exact .inl ⟨g1, .inr g3⟩
    · exact .inr ⟨g1, .inl g3⟩
/-- no edge in between leaves the corner's triangle by the corner's edges -/
theorem ge_NX {p b a : ge_P} {M : List ge_P} (hP : ge_S (p :: b :: M ++ [a])) (hD : 0 < ge_x a p b) {e : ge_P × ge_P} (he : e ∈ ge_E (b :: M ++ [a])) {c d : ge_P} (hcd : (c = e.1 ∧ d = e.2) ∨ (c = e.2 ∧ d = e.1))
    {k l : Int} (hk : 0 ≤ k) (hl : 0 ≤ l) (hkl : 0 < k + l)
    (p1 : 0 ≤ k * ge_x a p c + l * ge_x a p d) (p2 : 0 ≤ k * ge_x p b c + l * ge_x p b d) (p3 : 0 ≤ k * ge_x b a c + l * ge_x b a d) (c3 : 0 ≤ ge_x b a c) (hc : ge_x a p c < 0 ∨ ge_x p b c < 0)
    (hpos : 0 < k * ge_x b a c + l * ge_x b a d ∨ (0 < ge_x b a c ∧ 0 < k * ge_x a p c + l * ge_x a p d ∧ 0 < k * ge_x p b c + l * ge_x p b d)) : False := by
  have hEd := ge_Ed_cons p b a M
  have heP : e ∈ ge_Ed (p :: b :: M ++ [a]) := by rw [hEd]; simp at he ⊢; exact .inr (.inl he)
  have hpn : p ∉ b :: M ++ [a] := by have := hP.1; simp at this ⊢; grind
  have hm := ge_E_mem he
  have n1 : p ≠ c := by rcases hcd with ⟨h, -⟩ | ⟨h, -⟩ <;> (subst h; intro h; rw [h] at hpn; exact hpn (by first | exact hm.1 | exact hm.2))
  have n2 : p ≠ d := by rcases hcd with ⟨-, h⟩ | ⟨-, h⟩ <;> (subst h; intro h; rw [h] at hpn; exact hpn (by first | exact hm.1 | exact hm.2))
  have f1 : (a, p) ∈ ge_Ed (p :: b :: M ++ [a]) := by rw [hEd]; simp
  have f2 : (p, b) ∈ ge_Ed (p :: b :: M ++ [a]) := by rw [hEd]; simp
  have g1 : (a, p) ≠ e := by intro h; subst h; exact hpn hm.2
  have g2 : (p, b) ≠ e := by intro h; subst h; exact hpn hm.1
  have k1 : ge_x a p c < 0 → (k * ge_x p b c + l * ge_x p b d) * ge_x a p c ≤ (k * ge_x a p c + l * ge_x a p d) * ge_x p b c → False := by
    intro c1 cc
    have hw := ge_X1 hD hk hl hkl p1 p2 p3 c1 c3 cc
    have q1 := Int.mul_nonneg (show 0 ≤ - ge_x a p c by omega) p3
    have q2 := Int.mul_nonneg p1 c3
    rcases ge_swap_in hP f1 heP g1 hcd hw with ⟨-, h⟩ | ⟨h, -⟩
    · rcases h with h | h
      · exact n1 h
      · exact n2 h
    · rcases hpos with hp | ⟨hp1, hp2, -⟩
      · have := Int.mul_pos (show 0 < - ge_x a p c by omega) hp
        omega
      · have := Int.mul_pos hp2 hp1
        omega
  have k2 : ge_x p b c < 0 → (k * ge_x a p c + l * ge_x a p d) * ge_x p b c ≤ (k * ge_x p b c + l * ge_x p b d) * ge_x a p c → False := by
    intro c1 cc
    have hw := ge_X2 hD hk hl hkl p1 p2 p3 c1 c3 cc
    have q1 := Int.mul_nonneg (show 0 ≤ - ge_x p b c by omega) p3
    have q2 := Int.mul_nonneg p2 c3
    rcases ge_swap_in hP f2 heP g2 hcd (ge_wt_swap hw) with ⟨h, -⟩ | ⟨-, h⟩
    · rcases hpos with hp | ⟨hp1, -, hp2⟩
      · have := Int.mul_pos (show 0 < - ge_x p b c by omega) hp
        omega
      · have := Int.mul_pos hp2 hp1
        omega
    · rcases h with h | h
      · exact n1 h
      · exact n2 h
  rcases Int.lt_or_le (ge_x a p c) 0 with c1 | c1
  · rcases Int.lt_or_le (ge_x p b c) 0 with c2 | c2
    · rcases Int.le_total ((k * ge_x p b c + l * ge_x p b d) * ge_x a p c) ((k * ge_x a p c + l * ge_x a p d) * ge_x p b c) with h | h
      · exact k1 c1 h
      · exact k2 c2 h
    · have r1 := Int.mul_nonneg p1 c2
      have r2 := Int.mul_nonneg p2 (show 0 ≤ - ge_x a p c by omega)
      exact k1 c1 (by grind)
  · have c2 : ge_x p b c < 0 := by omega
    have r1 := Int.mul_nonneg p2 c1
    have r2 := Int.mul_nonneg p1 (show 0 ≤ - ge_x p b c by omega)
    exact k2 c2 (by grind)
theorem ge_aff {a b c d : ge_P} {i j k l : Int} (h : ge_wt a b c d i j k l) (u v : ge_P) : k * ge_x u v c + l * ge_x u v d = i * ge_x u v a + j * ge_x u v b := by
  obtain ⟨-, -, -, -, -, h6, h7, h8⟩ := h
  have e : i = k + l - j := by omega
  subst e
  unfold ge_x
  grind
theorem ge_x_00 (a b : ge_P) : ge_x a b a = 0 ∧ ge_x a b b = 0 ∧ ge_x a a b = 0 := by unfold ge_x; grind
theorem ge_E_last {l : List ge_P} {a w : ge_P} (hn : (l ++ [a]).Nodup) : (a, w) ∉ ge_E (l ++ [a]) := by
  induction l with
  | nil => simp [ge_E]
  | cons c l ih =>
    cases l with
    | nil => simp [ge_E] at hn ⊢; grind
    | cons d l =>
      simp [ge_E] at ih hn ⊢
      grind
theorem ge_E_snd {b c w : ge_P} {l : List ge_P} (hn : (b :: c :: l).Nodup) (h : (b, w) ∈ ge_E (b :: c :: l)) : w = c := by
  simp [ge_E] at h
  rcases h with h | h
  · exact h
  · have := (ge_E_mem h).1
    have := (List.nodup_cons.mp hn).1
    contradiction
theorem ge_ar {k l j i A B D : Int} (hk : 0 < k) (hl : 0 < l) (hj : 0 < j) (hi : 0 < i) (hs : i + j = k + l) (hD : 0 < D) (h : k * A + l * B = j * D) (n1 : ¬ (0 < A ∧ A < D)) (n2 : ¬ (0 < B ∧ B < D)) : (A ≤ 0 ∧ D ≤ B) ∨ (B ≤ 0 ∧ D ≤ A) := by
  have pj := Int.mul_pos hj hD
  have pi := Int.mul_pos hi hD
  rcases Int.lt_or_le 0 A with hA | hA
  · rcases Int.lt_or_le 0 B with hB | hB
    · have q1 := Int.mul_nonneg (Int.le_of_lt hk) (show 0 ≤ A - D by omega)
      have q2 := Int.mul_nonneg (Int.le_of_lt hl) (show 0 ≤ B - D by omega)
      have e : i = k + l - j := by omega
      subst e
      grind
    · exact .inr ⟨hB, by omega⟩
  · rcases Int.lt_or_le 0 B with hB | hB
    · exact .inl ⟨hA, by omega⟩
    · have q1 := Int.mul_nonneg (Int.le_of_lt hk) (show 0 ≤ - A by omega)
      have q2 := Int.mul_nonneg (Int.le_of_lt hl) (show 0 ≤ - B by omega)
      grind
/-- a corner whose triangle is empty can be cut off -/
theorem ge_ear_cf {p b a : ge_P} {M : List ge_P} (hP : ge_S (p :: b :: M ++ [a])) (hM : M ≠ []) (hD : 0 < ge_x a p b) (hem : ∀ v ∈ M, ¬ ge_in a p b v) {e : ge_P × ge_P} (he : e ∈ ge_E (b :: M ++ [a])) : ge_cf a b e := by
  have hEd := ge_Ed_cons p b a M
  have heP : e ∈ ge_Ed (p :: b :: M ++ [a]) := by rw [hEd]; simp at he ⊢; exact .inr (.inl he)
  have hn := hP.1
  have hm := ge_E_mem he
  intro i j k l hw
  obtain ⟨hi, hj, hk, hl, hs, hs2, h7, h8⟩ := id hw
  have haP : a ∈ p :: b :: M ++ [a] := by simp
  have hbP : b ∈ p :: b :: M ++ [a] := by simp
  rcases (show i = 0 ∨ 0 < i by omega) with hi0 | hi0
  · left
    subst hi0
    refine ⟨rfl, ?_⟩
    exact ge_V hP hbP heP (i := j) (j := 0) ⟨by omega, by omega, hk, hl, by omega, by omega, by grind, by grind⟩
  rcases (show j = 0 ∨ 0 < j by omega) with hj0 | hj0
  · right
    subst hj0
    refine ⟨rfl, ?_⟩
    exact ge_V hP haP heP (i := i) (j := 0) ⟨by omega, by omega, hk, hl, by omega, by omega, by grind, by grind⟩
  exfalso
  have a1 := ge_aff hw a p
  have a2 := ge_aff hw p b
  have a3 := ge_aff hw b a
  have z1 := ge_x_00 a p
  have z2 := ge_x_00 p b
  have z3 := ge_x_00 b a
  have hD2 : ge_x p b a = ge_x a p b := (ge_x_rot a p b).symm
  rw [z1.1] at a1
  rw [z2.2.1, hD2] at a2
  rw [z3.1, z3.2.1] at a3
  simp only [Int.mul_zero, Int.zero_add, Int.add_zero] at a1 a2 a3
  have pj := Int.mul_pos hj0 hD
  have pi := Int.mul_pos hi0 hD
  -- a corner in between that lies in the triangle is a or b
  have hin : ∀ v ∈ b :: M ++ [a], ge_in a p b v → v = a ∨ v = b := by
    intro v hv hi
    simp at hv
    rcases hv with h | h | h
    · exact .inr h
    · exact absurd hi (hem v h)
    · exact .inl h
  have far : ∀ c d : ge_P, ∀ k l : Int, ((c = e.1 ∧ d = e.2) ∨ (c = e.2 ∧ d = e.1)) → 0 ≤ k → 0 ≤ l → 0 < k + l → k * ge_x a p c + l * ge_x a p d = j * ge_x a p b → k * ge_x p b c + l * ge_x p b d = i * ge_x a p b → k * ge_x b a c + l * ge_x b a d = 0 → c ∈ b :: M ++ [a] → ¬ 0 < ge_x b a c := by
    intro c d k l hcd hk hl hkl b1 b2 b3 hc h
    rcases Int.lt_or_le (ge_x a p c) 0 with q1 | q1
    · exact ge_NX hP hD he hcd hk hl hkl (by omega) (by omega) (by omega) (by omega) (.inl q1) (.inr ⟨h, by omega, by omega⟩)
    · rcases Int.lt_or_le (ge_x p b c) 0 with q2 | q2
      · exact ge_NX hP hD he hcd hk hl hkl (by omega) (by omega) (by omega) (by omega) (.inr q2) (.inr ⟨h, by omega, by omega⟩)
      · rcases hin c hc ⟨q1, q2, by omega⟩ with g | g
        · subst g; omega
        · subst g; omega
  have c3 : ge_x b a e.1 ≤ 0 := by
    have := far e.1 e.2 k l (.inl ⟨rfl, rfl⟩) hk hl (by omega) a1 a2 a3 hm.1
    omega
  have d3 : ge_x b a e.2 ≤ 0 := by
    have := far e.2 e.1 l k (.inr ⟨rfl, rfl⟩) hl hk (by omega) (by omega) (by omega) (by omega) hm.2
    omega
  have m1 := Int.mul_nonneg hk (show 0 ≤ - ge_x b a e.1 by omega)
  have m2 := Int.mul_nonneg hl (show 0 ≤ - ge_x b a e.2 by omega)
  have s1 := (ge_bary a p b e.1).1
  have s2 := (ge_bary a p b e.2).1
  -- an end strictly within the side from a to b
  have inner : ∀ c ∈ b :: M ++ [a], ge_x b a c = 0 → ¬ (0 < ge_x a p c ∧ 0 < ge_x p b c) := by
    intro c hc h0 ⟨q1, q2⟩
    rcases hin c hc ⟨by omega, by omega, by omega⟩ with g | g
    · subst g; omega
    · subst g; omega
  rcases (show k = 0 ∨ 0 < k by omega) with hk0 | hk0
  · subst hk0
    simp only [Int.zero_mul, Int.zero_add] at a1 a2 a3
    have r3 : ge_x b a e.2 = 0 := by rcases Int.mul_eq_zero.mp a3 with h | h <;> omega
    have r1 : 0 < ge_x a p e.2 := by
      rcases Int.lt_or_le 0 (ge_x a p e.2) with h | h
      · exact h
      · have := Int.mul_nonneg hl (show 0 ≤ - ge_x a p e.2 by omega); grind
    have r2 : 0 < ge_x p b e.2 := by
      rcases Int.lt_or_le 0 (ge_x p b e.2) with h | h
      · exact h
      · have := Int.mul_nonneg hl (show 0 ≤ - ge_x p b e.2 by omega); grind
    exact inner e.2 hm.2 r3 ⟨r1, r2⟩
  rcases (show l = 0 ∨ 0 < l by omega) with hl0 | hl0
  · subst hl0
    simp only [Int.zero_mul, Int.add_zero] at a1 a2 a3
    have r3 : ge_x b a e.1 = 0 := by rcases Int.mul_eq_zero.mp a3 with h | h <;> omega
    have r1 : 0 < ge_x a p e.1 := by
      rcases Int.lt_or_le 0 (ge_x a p e.1) with h | h
      · exact h
      · have := Int.mul_nonneg hk (show 0 ≤ - ge_x a p e.1 by omega); grind
    have r2 : 0 < ge_x p b e.1 := by
      rcases Int.lt_or_le 0 (ge_x p b e.1) with h | h
      · exact h
      · have := Int.mul_nonneg hk (show 0 ≤ - ge_x p b e.1 by omega); grind
    exact inner e.1 hm.1 r3 ⟨r1, r2⟩
  have r3 : ge_x b a e.1 = 0 := by
    have : k * ge_x b a e.1 = 0 := by grind
    rcases Int.mul_eq_zero.mp this with h | h <;> omega
  have r4 : ge_x b a e.2 = 0 := by
    have : l * ge_x b a e.2 = 0 := by grind
    rcases Int.mul_eq_zero.mp this with h | h <;> omega
  have i1 := inner e.1 hm.1 r3
  have i2 := inner e.2 hm.2 r4
  -- a is on the edge, and b
  have line : ∀ c d : ge_P, ((c = e.1 ∧ d = e.2) ∨ (c = e.2 ∧ d = e.1)) → ge_x b a c = 0 → ge_x b a d = 0 → ge_x a p c ≤ 0 → ge_x a p b ≤ ge_x a p d → c = a ∧ d = b := by
    intro c d hcd q1 q2 q3 q4
    have y1 := ge_bary a p b c
    have y2 := ge_bary a p b d
    have hne : ge_x a p b ≠ 0 := by omega
    have on1 : ∀ f1 f2 : Int, f1 = ge_x a p c → f2 = ge_x a p d → ge_wt a a c d (f2 - f1) 0 f2 (-f1) := by
      intro f1 f2 g1 g2
      refine ⟨by omega, by omega, by omega, by omega, by omega, by omega, ?_, ?_⟩
      · apply Int.eq_of_mul_eq_mul_left hne
        subst g1; subst g2
        unfold ge_x at *
        grind
      · apply Int.eq_of_mul_eq_mul_left hne
        subst g1; subst g2
        unfold ge_x at *
        grind
    have on2 : ∀ f1 f2 D : Int, f1 = ge_x a p c → f2 = ge_x a p d → D = ge_x a p b → ge_wt b b c d (f2 - f1) 0 (f2 - D) (D - f1) := by
      intro f1 f2 D g1 g2 g3
      refine ⟨by omega, by omega, by omega, by omega, by omega, by omega, ?_, ?_⟩
      · apply Int.eq_of_mul_eq_mul_left hne
        subst g1; subst g2; subst g3
        unfold ge_x at *
        grind
      · apply Int.eq_of_mul_eq_mul_left hne
        subst g1; subst g2; subst g3
        unfold ge_x at *
        grind
    have w1 := on1 _ _ rfl rfl
    have w2 := on2 _ _ _ rfl rfl rfl
    rcases hcd with ⟨h1, h2⟩ | ⟨h1, h2⟩ <;> subst h1 <;> subst h2
    · constructor
      · rcases ge_V hP haP heP w1 with ⟨g, -⟩ | ⟨g, -⟩
        · exact g.symm
        · rw [← g] at q4; omega
      · rcases ge_V hP hbP heP w2 with ⟨g, -⟩ | ⟨g, -⟩
        · rw [← g] at q3; omega
        · exact g.symm
    · constructor
      · rcases ge_V hP haP heP (ge_wt_swap2 w1) with ⟨g, -⟩ | ⟨g, -⟩
        · rw [← g] at q4; omega
        · exact g.symm
      · rcases ge_V hP hbP heP (ge_wt_swap2 w2) with ⟨g, -⟩ | ⟨g, -⟩
        · exact g.symm
        · rw [← g] at q3; omega
  have hnB : (b :: M ++ [a]).Nodup := by simp at hn ⊢; grind
  have t1 : ge_x a p e.1 ≤ 0 ∧ ge_x a p b ≤ ge_x a p e.2 → False := by
    intro ⟨g1, g2⟩
    obtain ⟨h1, h2⟩ := line e.1 e.2 (.inl ⟨rfl, rfl⟩) r3 r4 g1 g2
    obtain ⟨e1, e2⟩ := e
    dsimp only at h1 h2
    subst h1
    exact ge_E_last (l := b :: M) hnB he
  have t2 : ge_x a p e.2 ≤ 0 ∧ ge_x a p b ≤ ge_x a p e.1 → False := by
    intro ⟨g1, g2⟩
    obtain ⟨h1, h2⟩ := line e.2 e.1 (.inr ⟨rfl, rfl⟩) r4 r3 g1 g2
    cases M with
    | nil => exact hM rfl
    | cons m M =>
      obtain ⟨e1, e2⟩ := e
      dsimp only at h1 h2
      subst h1
      subst h2
      have := ge_E_snd (c := m) (l := M ++ [e2]) (by simpa using hnB) (by simpa using he)
      subst this
      simp at hnB
  -- where they lie
  rcases ge_ar hk0 hl0 hj0 hi0 hs2 hD a1 (fun g => i1 ⟨g.1, by omega⟩) (fun g => i2 ⟨g.1, by omega⟩) with g | g
  · exact t1 g
  · exact t2 g
end
section
theorem ge_E_map (f : ge_P → ge_P) : ∀ l : List ge_P, ge_E (l.map f) = (ge_E l).map (fun e => (f e.1, f e.2))
  | [] => rfl
  | [a] => rfl
  | a :: b :: l => by
    have := ge_E_map f (b :: l)
    simp [ge_E] at this ⊢
    exact this
theorem ge_Ed_map (f : ge_P → ge_P) (P : List ge_P) : ge_Ed (P.map f) = (ge_Ed P).map (fun e => (f e.1, f e.2)) := by
  cases P with
  | nil => rfl
  | cons p l =>
    have := ge_E_map f (p :: l ++ [p])
    simpa [ge_Ed, ge_cl] using this
theorem ge_S_map {f : ge_P → ge_P} (hi : ∀ a b, f a = f b → a = b) (hw : ∀ a b c d i j k l, ge_wt (f a) (f b) (f c) (f d) i j k l → ge_wt a b c d i j k l) {P : List ge_P} (h : ge_S P) : ge_S (P.map f) := by
  refine ⟨?_, by simpa using h.2.1, ?_⟩
  · exact List.Pairwise.map _ (fun a b hab hf => hab (hi a b hf)) h.1
  · intro e he g hg hne
    rw [ge_Ed_map] at he hg
    obtain ⟨e0, he0, rfl⟩ := List.mem_map.mp he
    obtain ⟨g0, hg0, rfl⟩ := List.mem_map.mp hg
    have hne0 : e0 ≠ g0 := fun z => hne (by rw [z])
    intro i j k l hwt
    rcases h.2.2 e0 he0 g0 hg0 hne0 i j k l (hw _ _ _ _ _ _ _ _ hwt) with ⟨h1, h2, h3⟩ | ⟨h1, h2, h3⟩
    · exact .inl ⟨h1, h2, congrArg f h3⟩
    · exact .inr ⟨h1, h2, congrArg f h3⟩
theorem ge_m_inj (a b : ge_P) (h : ge_m a = ge_m b) : a = b := by
  unfold ge_m at h
  have h1 := congrArg Prod.fst h
  have h2 := congrArg Prod.snd h
  exact Prod.ext (by simpa using h1) (by simpa using h2)
theorem ge_m_m (a : ge_P) : ge_m (ge_m a) = a := by unfold ge_m; simp
theorem ge_S_m {P : List ge_P} (h : ge_S P) : ge_S (P.map ge_m) := ge_S_map ge_m_inj (fun _ _ _ _ _ _ _ _ h => ge_wt_m h) h
/-- in the corner's triangle, whichever way it turns -/
def ge_inS (a p b x : ge_P) : Prop := (0 < ge_x a p b ∧ ge_in a p b x) ∨ (ge_x a p b < 0 ∧ ge_in b p a x)
theorem ge_cf_m {u v : ge_P} {e : ge_P × ge_P} (h : ge_cf (ge_m u) (ge_m v) (ge_m e.1, ge_m e.2)) : ge_cf u v e := by
  intro i j k l hw
  have hw' : ge_wt (ge_m u) (ge_m v) (ge_m e.1) (ge_m e.2) i j k l := ge_wt_m (by rw [ge_m_m, ge_m_m, ge_m_m, ge_m_m]; exact hw)
  have inj := ge_m_inj
  rcases h i j k l hw' with ⟨h1, ⟨h2, h3⟩ | ⟨h2, h3⟩⟩ | ⟨h1, ⟨h2, h3⟩ | ⟨h2, h3⟩⟩
  · exact .inl ⟨h1, .inl ⟨inj _ _ h2, h3⟩⟩
  · exact .inl ⟨h1, .inr ⟨inj _ _ h2, h3⟩⟩
  · exact .inr ⟨h1, .inl ⟨inj _ _ h2, h3⟩⟩
  · exact .inr ⟨h1, .inr ⟨inj _ _ h2, h3⟩⟩
theorem ge_in_m {a p b x : ge_P} : ge_in (ge_m a) (ge_m p) (ge_m b) (ge_m x) ↔ ge_in b p a x := by
  unfold ge_in
  rw [ge_x_m, ge_x_m, ge_x_m, ge_x_swap p b, ge_x_swap a p, ge_x_swap b a]
  constructor <;> intro h <;> omega
theorem ge_ear_cfS {p b a : ge_P} {M : List ge_P} (hP : ge_S (p :: b :: M ++ [a])) (hM : M ≠ []) (hD : ge_x a p b ≠ 0) (hem : ∀ v ∈ M, ¬ ge_inS a p b v) {e : ge_P × ge_P} (he : e ∈ ge_E (b :: M ++ [a])) : ge_cf a b e := by
  rcases (show 0 < ge_x a p b ∨ ge_x a p b < 0 by omega) with h | h
  · exact ge_ear_cf hP hM h (fun v hv hi => hem v hv (.inl ⟨h, hi⟩)) he
  · apply ge_cf_m
    have hP' := ge_S_m hP
    have e0 : (p :: b :: M ++ [a]).map ge_m = ge_m p :: ge_m b :: M.map ge_m ++ [ge_m a] := by simp
    rw [e0] at hP'
    refine ge_ear_cf hP' (by simpa using hM) (by rw [ge_x_m]; omega) ?_ ?_
    · intro v hv hi
      obtain ⟨v0, hv0, rfl⟩ := List.mem_map.mp hv
      exact hem v0 hv0 (.inr ⟨h, ge_in_m.mp hi⟩)
    · have : ge_m b :: M.map ge_m ++ [ge_m a] = (b :: M ++ [a]).map ge_m := by simp
      rw [this, ge_E_map]
      exact List.mem_map.mpr ⟨e, he, rfl⟩
theorem ge_Ed_line (b a : ge_P) (M : List ge_P) : ge_Ed (b :: M ++ [a]) = ge_E (b :: M ++ [a]) ++ [(a, b)] := by
  have h := ge_E_app (b :: M) [b] a
  simp [ge_Ed, ge_cl, ge_E] at h ⊢
  exact h
theorem ge_E_first {l : List ge_P} {b w : ge_P} (hn : (b :: l).Nodup) : (w, b) ∉ ge_E (b :: l) := by
  intro h
  cases l with
  | nil => simp [ge_E] at h
  | cons c l =>
    simp [ge_E] at h
    rcases h with h | h
    · have := h.2; subst this; simp at hn
    · exact (List.nodup_cons.mp hn).1 (ge_E_mem h).2
/-- a closed chain that is shut by a free segment -/
theorem ge_S_shut {b a : ge_P} {M : List ge_P} (hn : (b :: M ++ [a]).Nodup) (hM : M ≠ []) (hE : ∀ e ∈ ge_E (b :: M ++ [a]), ∀ f ∈ ge_E (b :: M ++ [a]), e ≠ f → ge_ok e f) (hc : ∀ e ∈ ge_E (b :: M ++ [a]), ge_cf a b e) : ge_S (b :: M ++ [a]) := by
  have key : ∀ e ∈ ge_E (b :: M ++ [a]), ge_ok (a, b) e := by
    intro e he i j k l hw
    rcases hc e he i j k l hw with ⟨h1, ⟨h2, h3⟩ | ⟨h2, h3⟩⟩ | ⟨h1, ⟨h2, h3⟩ | ⟨h2, h3⟩⟩
    · exact .inl ⟨h1, h3, h2⟩
    · exfalso
      obtain ⟨e1, e2⟩ := e
      dsimp only at h2
      subst h2
      exact ge_E_first (l := M ++ [a]) (by simpa using hn) (by simpa using he)
    · exfalso
      obtain ⟨e1, e2⟩ := e
      dsimp only at h2
      subst h2
      exact ge_E_last (l := b :: M) hn he
    · exact .inr ⟨h1, h3, h2⟩
  refine ⟨hn, ?_, ?_⟩
  · cases M with
    | nil => exact absurd rfl hM
    | cons m M => simp
  · intro e he f hf hne
    rw [ge_Ed_line, List.mem_append, List.mem_singleton] at he hf
    rcases he with he | he <;> rcases hf with hf | hf
    · exact hE e he f hf hne
    · subst hf; exact ge_ok_symm (key e he)
    · subst he; exact key f hf
    · subst he; subst hf; exact absurd rfl hne
theorem ge_S_mid {p b a : ge_P} {M : List ge_P} (_ : ge_S (p :: b :: M ++ [a])) {e : ge_P × ge_P} (he : e ∈ ge_E (b :: M ++ [a])) : e ∈ ge_Ed (p :: b :: M ++ [a]) := by
  rw [ge_Ed_cons]; simp at he ⊢; exact .inr (.inl he)
theorem ge_S_cut {p b a : ge_P} {M : List ge_P} (hP : ge_S (p :: b :: M ++ [a])) (hM : M ≠ []) (hD : ge_x a p b ≠ 0) (hem : ∀ v ∈ M, ¬ ge_inS a p b v) : ge_S (b :: M ++ [a]) :=
  ge_S_shut (by have := hP.1; simp at this ⊢; grind) hM (fun e he f hf hne => hP.2.2 e (ge_S_mid hP he) f (ge_S_mid hP hf) hne) (fun e he => ge_ear_cfS hP hM hD hem he)
theorem ge_Ed_rot (l1 l2 : List ge_P) (e : ge_P × ge_P) : e ∈ ge_Ed (l1 ++ l2) ↔ e ∈ ge_Ed (l2 ++ l1) := by
  cases l1 with
  | nil => simp
  | cons c l1 =>
    cases l2 with
    | nil => simp
    | cons p l2 =>
      have h1 := ge_E_app (c :: l1) (l2 ++ [c]) p
      have h2 := ge_E_app (p :: l2) (l1 ++ [p]) c
      have e1 : ge_cl (c :: l1 ++ p :: l2) = c :: l1 ++ p :: (l2 ++ [c]) := by simp [ge_cl]
      have e2 : ge_cl (p :: l2 ++ c :: l1) = p :: l2 ++ c :: (l1 ++ [p]) := by simp [ge_cl]
      unfold ge_Ed
      rw [e1, e2, h1, h2]
      simp [or_comm]
theorem ge_W_rot (x : ge_P) (l1 l2 : List ge_P) : ge_W x (l1 ++ l2) = ge_W x (l2 ++ l1) := by
  cases l1 with
  | nil => simp
  | cons c l1 =>
    cases l2 with
    | nil => simp
    | cons p l2 =>
      have h1 := ge_C_app x (c :: l1) (l2 ++ [c]) p
      have h2 := ge_C_app x (p :: l2) (l1 ++ [p]) c
      have e1 : ge_cl (c :: l1 ++ p :: l2) = c :: l1 ++ p :: (l2 ++ [c]) := by simp [ge_cl]
      have e2 : ge_cl (p :: l2 ++ c :: l1) = p :: l2 ++ c :: (l1 ++ [p]) := by simp [ge_cl]
      unfold ge_W
      rw [e1, e2, h1, h2]
      simp
      omega
theorem ge_S_rot {l1 l2 : List ge_P} (h : ge_S (l1 ++ l2)) : ge_S (l2 ++ l1) := by
  refine ⟨List.perm_append_comm.nodup_iff.mp h.1, by have := h.2.1; simp at this ⊢; omega, fun e he f hf hne => ?_⟩
  exact h.2.2 e ((ge_Ed_rot l1 l2 e).mpr he) f ((ge_Ed_rot l1 l2 f).mpr hf) hne
theorem ge_max (Q : ge_P → Prop) (f : ge_P → Int) : ∀ l : List ge_P, (∃ v ∈ l, Q v) → ∃ q ∈ l, Q q ∧ ∀ v ∈ l, Q v → f v ≤ f q
  | [], h => by obtain ⟨v, hv, -⟩ := h; simp at hv
  | a :: l, h => by
    by_cases hl : ∃ v ∈ l, Q v
    · obtain ⟨q, hq, hQ, hm⟩ := ge_max Q f l hl
      by_cases ha : Q a ∧ f q < f a
      · refine ⟨a, by simp, ha.1, fun v hv hQv => ?_⟩
        rcases List.mem_cons.mp hv with h | h
        · subst h; omega
        · have := hm v h hQv; omega
      · refine ⟨q, by simp [hq], hQ, fun v hv hQv => ?_⟩
        rcases List.mem_cons.mp hv with h | h
        · subst h
          rcases Int.lt_or_le (f q) (f v) with h' | h'
          · exact absurd ⟨hQv, h'⟩ ha
          · exact h'
        · exact hm v h hQv
    · obtain ⟨v, hv, hQ⟩ := h
      rcases List.mem_cons.mp hv with h | h
      · subst h
        refine ⟨v, by simp, hQ, fun w hw hQw => ?_⟩
        rcases List.mem_cons.mp hw with h | h
        · subst h; omega
        · exact absurd ⟨w, h, hQw⟩ hl
      · exact absurd ⟨v, h, hQ⟩ hl
/-- the farthest corner in the triangle is seen from p -/
theorem ge_chord {p b a : ge_P} {M : List ge_P} (hP : ge_S (p :: b :: M ++ [a])) (hD : 0 < ge_x a p b) {q : ge_P} (hqM : q ∈ M) (hqT : ge_in a p b q) (hmax : ∀ v ∈ M, ge_in a p b v → ge_x b a v ≤ ge_x b a q) {e : ge_P × ge_P} (he : e ∈ ge_Ed (p :: b :: M ++ [a])) : ge_cf p q e := by
  have hn := hP.1
  have hpP : p ∈ p :: b :: M ++ [a] := by simp
  have hqP : q ∈ p :: b :: M ++ [a] := by simp [hqM]
  have hqp : q ≠ p := by rintro rfl; simp at hn; grind
  have hqb : q ≠ b := by rintro rfl; simp at hn; grind
  have hqa : q ≠ a := by rintro rfl; simp at hn; grind
  obtain ⟨t1, t2, t3⟩ := id hqT
  obtain ⟨s1, s2, s3⟩ := ge_bary a p b q
  have hDne : ge_x a p b ≠ 0 := by omega
  have F3lt : ge_x b a q < ge_x a p b := by
    rcases Int.lt_or_le (ge_x b a q) (ge_x a p b) with h | h
    · exact h
    · exfalso
      apply hqp
      have z1 : ge_x a p q = 0 := by omega
      have z2 : ge_x p b q = 0 := by omega
      have z3 : ge_x b a q = ge_x a p b := by omega
      rw [z1, z2, z3] at s2 s3
      simp only [Int.zero_mul, Int.zero_add, Int.add_zero] at s2 s3
      have y1 : p.1 - q.1 = 0 := by rcases Int.mul_eq_zero.mp s3 with h | h <;> omega
      have y2 : p.2 - q.2 = 0 := by rcases Int.mul_eq_zero.mp s2 with h | h <;> omega
      exact Prod.ext (by omega) (by omega)
  intro i j k l hw
  obtain ⟨hi, hj, hk, hl, hs, hs2, h7, h8⟩ := id hw
  rcases (show i = 0 ∨ 0 < i by omega) with hi0 | hi0
  · left
    subst hi0
    exact ⟨rfl, ge_V hP hqP he (i := j) (j := 0) ⟨by omega, by omega, hk, hl, by omega, by omega, by grind, by grind⟩⟩
  rcases (show j = 0 ∨ 0 < j by omega) with hj0 | hj0
  · right
    subst hj0
    exact ⟨rfl, ge_V hP hpP he (i := i) (j := 0) ⟨by omega, by omega, hk, hl, by omega, by omega, by grind, by grind⟩⟩
  exfalso
  have a1 := ge_aff hw a p
  have a2 := ge_aff hw p b
  have a3 := ge_aff hw b a
  have z1 := ge_x_00 a p
  have z2 := ge_x_00 p b
  have z3 := ge_x_00 b a
  have hD3 : ge_x b a p = ge_x a p b := by rw [ge_x_rot, ge_x_rot]
  rw [z1.2.1] at a1
  rw [z2.1] at a2
  rw [hD3] at a3
  simp only [Int.mul_zero, Int.zero_add] at a1 a2
  have m1 := Int.mul_nonneg hj t1
  have m2 := Int.mul_nonneg hj t2
  have m3 := Int.mul_nonneg hj t3
  have m4 := Int.mul_pos hi0 hD
  have m5 := Int.mul_pos hi0 (show 0 < ge_x a p b - ge_x b a q by omega)
  have hEd := ge_Ed_cons p b a M
  rw [hEd] at he
  simp only [List.mem_cons, List.mem_append, List.not_mem_nil, or_false] at he
  rcases he with he | he | he
  · -- the first edge
    subst he
    dsimp only at a2
    rw [z2.1, z2.2.1] at a2
    simp only [Int.mul_zero, Int.zero_add, Int.add_zero] at a2
    have y : ge_x p b q = 0 := by rcases Int.mul_eq_zero.mp a2.symm with h | h <;> omega
    have := ge_V hP hqP (e := (p, b)) (by rw [hEd]; simp) (i := ge_x a p b) (j := 0) (k := ge_x b a q) (l := ge_x a p q) ⟨by omega, by omega, by omega, by omega, by omega, by omega, by grind, by grind⟩
    rcases this with ⟨h, -⟩ | ⟨h, -⟩
    · exact hqp h
    · exact hqb h
  · -- in between
    have hm := ge_E_mem (l := b :: M ++ [a]) he
    have far : ∀ c d : ge_P, ∀ k l : Int, ((c = e.1 ∧ d = e.2) ∨ (c = e.2 ∧ d = e.1)) → 0 ≤ k → 0 ≤ l → 0 < k + l → k * ge_x a p c + l * ge_x a p d = j * ge_x a p q → k * ge_x p b c + l * ge_x p b d = j * ge_x p b q → k * ge_x b a c + l * ge_x b a d = i * ge_x a p b + j * ge_x b a q → c ∈ b :: M ++ [a] → ¬ ge_x b a q < ge_x b a c := by
      intro c d k l hcd hk hl hkl b1 b2 b3 hc h
      rcases Int.lt_or_le (ge_x a p c) 0 with q1 | q1
      · exact ge_NX hP hD he hcd hk hl hkl (by omega) (by omega) (by omega) (by omega) (.inl q1) (.inl (by omega))
      · rcases Int.lt_or_le (ge_x p b c) 0 with q2 | q2
        · exact ge_NX hP hD he hcd hk hl hkl (by omega) (by omega) (by omega) (by omega) (.inr q2) (.inl (by omega))
        · simp at hc
          rcases hc with g | g | g
          · subst g; omega
          · have := hmax c g ⟨q1, q2, by omega⟩; omega
          · subst g; omega
    have f1 := far e.1 e.2 k l (.inl ⟨rfl, rfl⟩) hk hl (by omega) a1 a2 a3 hm.1
    have f2 := far e.2 e.1 l k (.inr ⟨rfl, rfl⟩) hl hk (by omega) (by omega) (by omega) (by omega) hm.2
    have n1 := Int.mul_nonneg hk (show 0 ≤ ge_x b a q - ge_x b a e.1 by omega)
    have n2 := Int.mul_nonneg hl (show 0 ≤ ge_x b a q - ge_x b a e.2 by omega)
    have e0 : i = k + l - j := by omega
    subst e0
    clear far f1 f2 a1 a2 m1 m2 m3 s1 s2 s3 h7 h8 hw t1 t2 t3
    grind
  · -- the last edge
    subst he
    dsimp only at a1
    rw [z1.1, z1.2.1] at a1
    simp only [Int.mul_zero, Int.zero_add, Int.add_zero] at a1
    have y : ge_x a p q = 0 := by rcases Int.mul_eq_zero.mp a1.symm with h | h <;> omega
    have := ge_V hP hqP (e := (a, p)) (by rw [hEd]; simp) (i := ge_x a p b) (j := 0) (k := ge_x p b q) (l := ge_x b a q) ⟨by omega, by omega, by omega, by omega, by omega, by omega, by grind, by grind⟩
    rcases this with ⟨h, -⟩ | ⟨h, -⟩
    · exact hqa h
    · exact hqp h
/-! past a corner -/
theorem ge_W_cons (x p b a : ge_P) (M : List ge_P) : ge_W x (p :: b :: M ++ [a]) = ge_w x p b + ge_C x (b :: M ++ [a]) + ge_w x a p := by
  have h := ge_C_app x (b :: M) [p] a
  simp [ge_W, ge_cl, ge_C] at h ⊢
  omega
theorem ge_W_line (x b a : ge_P) (M : List ge_P) : ge_W x (b :: M ++ [a]) = ge_C x (b :: M ++ [a]) + ge_w x a b := by
  have h := ge_C_app x (b :: M) [b] a
  simp [ge_W, ge_cl, ge_C] at h ⊢
  omega
theorem ge_W_cut (x p b a : ge_P) (M : List ge_P) : ge_W x (p :: b :: M ++ [a]) = ge_W x (b :: M ++ [a]) + ge_TW x a p b := by
  rw [ge_W_cons, ge_W_line]
  unfold ge_TW
  have := ge_w_swap x a b
  omega
theorem ge_W_split (x p b q a : ge_P) (M2 M1 : List ge_P) : ge_W x (p :: b :: (M2 ++ q :: M1) ++ [a]) = ge_W x (p :: b :: M2 ++ [q]) + ge_W x (p :: q :: M1 ++ [a]) := by
  rw [ge_W_cons, ge_W_cons, ge_W_cons]
  have := ge_w_swap x p q
  have h := ge_C_app x (b :: M2) (M1 ++ [a]) q
  simp at h ⊢
  omega
def ge_lt (x y : ge_P) : Prop := x.2 < y.2 ∨ (x.2 = y.2 ∧ x.1 < y.1)
theorem ge_mem_mid {p b a : ge_P} {M : List ge_P} {e : ge_P × ge_P} (h : e ∈ ge_Ed (p :: b :: M ++ [a])) : e = (p, b) ∨ e ∈ ge_E (b :: M ++ [a]) ∨ e = (a, p) := by
  rw [ge_Ed_cons] at h
  simp only [List.mem_cons, List.mem_append, List.not_mem_nil, or_false] at h ⊢
  exact h
theorem ge_J3 {x z p r s : ge_P} {N : List ge_P} (h1 : x.2 < p.2) (h2 : p.2 < z.2) (hp : ge_x x z p = 0) (hs : (0 < ge_x x z r ∧ 0 < ge_x x z s) ∨ (ge_x x z r < 0 ∧ ge_x x z s < 0)) (hm : ∀ e ∈ ge_E (r :: N ++ [s]), ¬ ge_meet e.1 e.2 x z) : ge_W x (p :: r :: N ++ [s]) = ge_W z (p :: r :: N ++ [s]) := by
  rcases hs with ⟨hr, hs⟩ | ⟨hr, hs⟩
  · refine ge_J0 (ge_g2 x z) (fun e he => ?_)
    rcases ge_mem_mid he with h | h | h
    · subst h; exact ge_thruL h1 h2 hp hr
    · have q := hm e h
      rw [ge_g2_eq q, ge_g2_eq (mt ge_meet_swap q)]
      exact ge_loc q (by omega)
    · subst h
      have := ge_thruL h1 h2 hp hs
      have e1 := ge_w_swap x p s
      have e2 := ge_w_swap z p s
      dsimp only
      omega
  · refine ge_J0 (ge_g x z) (fun e he => ?_)
    rcases ge_mem_mid he with h | h | h
    · subst h; exact ge_thruR h1 h2 hp hr
    · exact ge_loc (hm e h) (by omega)
    · subst h
      have := ge_thruR h1 h2 hp hs
      have e1 := ge_w_swap x p s
      have e2 := ge_w_swap z p s
      dsimp only
      omega
/-- a place that the lowest corner sees, outside of the corner's angle, is outside -/
theorem ge_KK {p r s u : ge_P} {N : List ge_P} (hlow : ∀ v ∈ r :: N ++ [s], ge_lt p v) (hu : ge_lt p u) (hs : (0 < ge_x p u r ∧ 0 < ge_x p u s) ∨ (ge_x p u r < 0 ∧ ge_x p u s < 0)) (hm : ∀ e ∈ ge_E (r :: N ++ [s]), ¬ ge_meet e.1 e.2 p u) : ge_W u (p :: r :: N ++ [s]) = 0 := by
  rcases hu with hu | ⟨hu, hu1⟩
  · let z : ge_P := (2 * p.1 - u.1, 2 * p.2 - u.2)
    have hx : ∀ v, ge_x z u v = 2 * ge_x p u v := by intro v; show ge_x (2 * p.1 - u.1, 2 * p.2 - u.2) u v = _; unfold ge_x; grind
    have hz : z.2 = 2 * p.2 - u.2 := rfl
    have hz1 : z.1 = 2 * p.1 - u.1 := rfl
    have hW : ge_W z (p :: r :: N ++ [s]) = 0 := by
      apply ge_W_low
      intro v hv
      have : v = p ∨ v ∈ r :: N ++ [s] := by simpa using hv
      rcases this with h | h
      · subst h; left; omega
      · rcases hlow v h with g | g <;> (left; omega)
    rw [← hW]
    symm
    refine ge_J3 (by omega) (by omega) (by rw [hx, (ge_x_00 p u).1]; rfl) (by rw [hx, hx]; omega) (fun e he hmt => ?_)
    obtain ⟨i, j, k, l, hi, hj, hk, hl, h5, h6, h7, h8⟩ := hmt
    rw [hz] at h8
    rw [hz1] at h7
    rcases Int.lt_or_le l k with hlk | hlk
    · have hm2 := ge_E_mem he
      have v1 : p.2 ≤ e.1.2 := by rcases hlow _ hm2.1 with g | g <;> omega
      have v2 : p.2 ≤ e.2.2 := by rcases hlow _ hm2.2 with g | g <;> omega
      have q1 := Int.mul_nonneg hi (show 0 ≤ e.1.2 - p.2 by omega)
      have q2 := Int.mul_nonneg hj (show 0 ≤ e.2.2 - p.2 by omega)
      have q3 := Int.mul_pos (show 0 < k - l by omega) (show 0 < u.2 - p.2 by omega)
      have e0 : i = k + l - j := by omega
      subst e0
      grind
    · exact hm e he ⟨i, j, 2 * k, l - k, hi, hj, by omega, by omega, h5, by omega, by grind, by grind⟩
  · have e1 : ∀ v, ge_x p u v = (u.1 - p.1) * (v.2 - p.2) := by intro v; unfold ge_x; grind
    have up : ∀ v, ge_lt p v → ge_x p u v ≠ 0 → p.2 < v.2 := by
      intro v hv h0
      rcases hv with h | h
      · exact h
      · exfalso; apply h0; rw [e1]; rw [← h.1]; grind
    have hr := up r (hlow r (by simp)) (by omega)
    have hs' := up s (hlow s (by simp)) (by omega)
    rw [ge_W_cons]
    have w1 : ge_w u p r = 1 := by
      have : ge_x p r u = - ((r.2 - p.2) * (u.1 - p.1)) := by unfold ge_x; grind
      have := Int.mul_pos (show 0 < r.2 - p.2 by omega) (show 0 < u.1 - p.1 by omega)
      unfold ge_w; grind
    have w2 : ge_w u s p = -1 := by
      have : ge_x s p u = (s.2 - p.2) * (u.1 - p.1) := by unfold ge_x; grind
      have := Int.mul_pos (show 0 < s.2 - p.2 by omega) (show 0 < u.1 - p.1 by omega)
      unfold ge_w; grind
    have w0 : ∀ c d : ge_P, (c, d) ∈ ge_E (r :: N ++ [s]) → ge_w u c d = 0 := by
      intro c d hcd
      have hm2 := ge_E_mem hcd
      have lc := hlow _ hm2.1
      have ld := hlow _ hm2.2
      dsimp only at lc ld
      have hn := hm _ hcd
      dsimp only at hn
      have on : ∀ c d : ge_P, ge_lt p c → c.2 = u.2 → c.1 < u.1 → ge_meet c d p u := by
        intro c d h1 h2 h3
        have h4 : p.1 < c.1 := by rcases h1 with h | h <;> omega
        refine ⟨u.1 - p.1, 0, u.1 - c.1, c.1 - p.1, by omega, by omega, by omega, by omega, by omega, by omega, by grind, by grind⟩
      unfold ge_w
      split
      · rename_i h
        exfalso
        have c2 : c.2 = u.2 := by rcases lc with g | g <;> omega
        have : ge_x c d u = - ((d.2 - c.2) * (u.1 - c.1)) := by unfold ge_x; grind
        rcases Int.lt_or_le c.1 u.1 with g | g
        · exact hn (on c d lc c2 g)
        · have := Int.mul_nonneg (show 0 ≤ d.2 - c.2 by omega) (show 0 ≤ c.1 - u.1 by omega)
          grind
      · split
        · rename_i h
          exfalso
          have c2 : d.2 = u.2 := by rcases ld with g | g <;> omega
          have : ge_x c d u = (c.2 - d.2) * (u.1 - d.1) := by unfold ge_x; grind
          rcases Int.lt_or_le d.1 u.1 with g | g
          · exact hn (ge_meet_swap (on d c ld c2 g))
          · have := Int.mul_nonneg (show 0 ≤ c.2 - d.2 by omega) (show 0 ≤ d.1 - u.1 by omega)
            grind
        · rfl
    have w3 : ∀ l : List ge_P, (∀ c d, (c, d) ∈ ge_E l → ge_w u c d = 0) → ge_C u l = 0 := by
      intro l
      induction l with
      | nil => intro _; rfl
      | cons c l ih =>
        intro h
        cases l with
        | nil => rfl
        | cons d l =>
          have g1 := h c d (by simp [ge_E])
          have g2 := ih (fun x y hxy => h x y (by simp [ge_E, hxy]))
          simp [ge_C]
          omega
    rw [w1, w2, w3 _ w0]
    rfl
/-! scaling -/
def ge_sc (n : Int) (x : ge_P) : ge_P := (n * x.1, n * x.2)
theorem ge_x_sc (n : Int) (a b c : ge_P) : ge_x (ge_sc n a) (ge_sc n b) (ge_sc n c) = n * n * ge_x a b c := by unfold ge_x ge_sc; grind
theorem ge_wt_sc {n : Int} (hn : 0 < n) {a b x y : ge_P} {i j k l : Int} (h : ge_wt (ge_sc n a) (ge_sc n b) (ge_sc n x) (ge_sc n y) i j k l) : ge_wt a b x y i j k l := by
  obtain ⟨h1, h2, h3, h4, h5, h6, h7, h8⟩ := h
  simp only [ge_sc] at h7 h8
  exact ⟨h1, h2, h3, h4, h5, h6, Int.eq_of_mul_eq_mul_left (show n ≠ 0 by omega) (by grind), Int.eq_of_mul_eq_mul_left (show n ≠ 0 by omega) (by grind)⟩
theorem ge_sc_inj {n : Int} (hn : 0 < n) (a b : ge_P) (h : ge_sc n a = ge_sc n b) : a = b := by
  unfold ge_sc at h
  have h1 : n * a.1 = n * b.1 := congrArg Prod.fst h
  have h2 : n * a.2 = n * b.2 := congrArg Prod.snd h
  exact Prod.ext (Int.eq_of_mul_eq_mul_left (by omega) h1) (Int.eq_of_mul_eq_mul_left (by omega) h2)
theorem ge_S_sc {n : Int} (hn : 0 < n) {P : List ge_P} (h : ge_S P) : ge_S (P.map (ge_sc n)) := ge_S_map (ge_sc_inj hn) (fun _ _ _ _ _ _ _ _ h => ge_wt_sc hn h) h
theorem ge_sc_lt {n a b : Int} (hn : 0 < n) : (n * a < n * b ↔ a < b) ∧ (n * a ≤ n * b ↔ a ≤ b) :=
  ⟨⟨fun h => Int.lt_of_mul_lt_mul_left h (by omega), fun h => Int.mul_lt_mul_of_pos_left h hn⟩, ⟨fun h => Int.le_of_mul_le_mul_left h hn, fun h => Int.mul_le_mul_of_nonneg_left h (by omega)⟩⟩
theorem ge_sc_pos {n a : Int} (hn : 0 < n) : (0 < n * n * a ↔ 0 < a) ∧ (n * n * a < 0 ↔ a < 0) := by
  have h := Int.mul_pos hn hn
  constructor <;> constructor <;> intro h1
  · exact Int.lt_of_mul_lt_mul_left (a := n * n) (by omega) (by omega)
  · exact Int.mul_pos h h1
  · exact Int.lt_of_mul_lt_mul_left (a := n * n) (by omega) (by omega)
  · have := Int.mul_pos h (show 0 < -a by omega); grind
theorem ge_w_sc {n : Int} (hn : 0 < n) (x a b : ge_P) : ge_w (ge_sc n x) (ge_sc n a) (ge_sc n b) = ge_w x a b := by
  unfold ge_w
  rw [ge_x_sc]
  simp only [ge_sc, (ge_sc_pos hn).1, (ge_sc_pos hn).2, (ge_sc_lt hn).1, (ge_sc_lt hn).2]
theorem ge_C_sc {n : Int} (hn : 0 < n) (x : ge_P) : ∀ l : List ge_P, ge_C (ge_sc n x) (l.map (ge_sc n)) = ge_C x l
  | [] => rfl
  | [a] => rfl
  | a :: b :: l => by
    have := ge_C_sc hn x (b :: l)
    simp [ge_C] at this ⊢
    rw [this, ge_w_sc hn]
theorem ge_W_sc {n : Int} (hn : 0 < n) (x : ge_P) (P : List ge_P) : ge_W (ge_sc n x) (P.map (ge_sc n)) = ge_W x P := by
  cases P with
  | nil => rfl
  | cons p l =>
    have := ge_C_sc hn x (p :: l ++ [p])
    simpa [ge_W, ge_cl] using this
theorem ge_sc_sc (n m : Int) (x : ge_P) : ge_sc n (ge_sc m x) = ge_sc (n * m) x := by unfold ge_sc; simp [Int.mul_assoc]
/-- a place that is not on a segment: a line parts them -/
theorem ge_part {c d m : ge_P} (h : ¬ ge_meet c d m m) : ∃ u1 u2 : Int, 0 < u1 * (m.1 - c.1) + u2 * (m.2 - c.2) ∧ 0 < u1 * (m.1 - d.1) + u2 * (m.2 - d.2) := by
  rcases (show 0 < ge_x c d m ∨ ge_x c d m < 0 ∨ ge_x c d m = 0 by omega) with g | g | g
  · refine ⟨-(d.2 - c.2), d.1 - c.1, ?_, ?_⟩ <;> (unfold ge_x at g; grind)
  · refine ⟨d.2 - c.2, -(d.1 - c.1), ?_, ?_⟩ <;> (unfold ge_x at g; grind)
  · refine ⟨(m.1 - c.1) + (m.1 - d.1), (m.2 - c.2) + (m.2 - d.2), ?_⟩
    -- the product of the two ways is above 0
    let X := m.1 - c.1
    let Y := m.2 - c.2
    let X' := m.1 - d.1
    let Y' := m.2 - d.2
    have hg : X * Y' = X' * Y := by unfold ge_x at g; show (m.1 - c.1) * (m.2 - d.2) = (m.1 - d.1) * (m.2 - c.2); grind
    have sq : ∀ t : Int, 0 ≤ t * t := fun t => by
      rcases Int.le_total 0 t with h | h
      · exact Int.mul_nonneg h h
      · have := Int.mul_nonneg (show 0 ≤ -t by omega) (show 0 ≤ -t by omega); grind
    have dot : 0 < X * X' + Y * Y' := by
      rcases Int.lt_or_le 0 (X * X' + Y * Y') with h' | h'
      · exact h'
      · exfalso
        apply h
        -- weights by the coordinate that is larger
        by_cases hX : X = 0 ∧ Y = 0
        · exact ⟨1, 0, 1, 0, by omega, by omega, by omega, by omega, by omega, by omega, by have := hX.1; show 1 * c.1 + 0 * d.1 = _; simp [X] at this; omega, by have := hX.2; show 1 * c.2 + 0 * d.2 = _; simp [Y] at this; omega⟩
        · -- |X|^2+|Y|^2 > 0 ; m = c + t (d - c), t = |m-c|^2/(|m-c|^2 - dot)
          have s1 := sq X
          have s2 := sq Y
          have s3 : 0 < X * X + Y * Y := by
            rcases (show X ≠ 0 ∨ Y ≠ 0 by omega) with hx | hx
            · rcases (show 0 < X ∨ 0 < -X by omega) with hx | hx
              · have := Int.mul_pos hx hx; omega
              · have := Int.mul_pos hx hx; grind
            · rcases (show 0 < Y ∨ 0 < -Y by omega) with hx | hx
              · have := Int.mul_pos hx hx; omega
              · have := Int.mul_pos hx hx; grind
          have k1 : (-(X * X' + Y * Y')) * X + (X * X + Y * Y) * X' = 0 := by grind
          have k2 : (-(X * X' + Y * Y')) * Y + (X * X + Y * Y) * Y' = 0 := by grind
          have eX : c.1 = m.1 - X := by simp [X]; omega
          have eY : c.2 = m.2 - Y := by simp [Y]; omega
          have eX' : d.1 = m.1 - X' := by simp [X']; omega
          have eY' : d.2 = m.2 - Y' := by simp [Y']; omega
          refine ⟨-(X * X' + Y * Y'), X * X + Y * Y, (X * X + Y * Y) - (X * X' + Y * Y'), 0, by omega, by omega, by omega, by omega, by omega, by omega, ?_, ?_⟩
          · rw [eX, eX']; clear eX eY eX' eY'; generalize X = A at *; generalize Y = B at *; generalize X' = A' at *; generalize Y' = B' at *; grind
          · rw [eY, eY']; clear eX eY eX' eY'; generalize X = A at *; generalize Y = B at *; generalize X' = A' at *; generalize Y' = B' at *; grind
    have s1 := sq X
    have s2 := sq Y
    have s3 := sq X'
    have s4 := sq Y'
    constructor
    · show 0 < (X + X') * X + (Y + Y') * Y
      grind
    · show 0 < (X + X') * X' + (Y + Y') * Y'
      grind
theorem ge_eps1 {c d m : ge_P} (v : ge_P) (h : ¬ ge_meet c d m m) : ∃ n0 : Int, 0 < n0 ∧ ∀ n, n0 ≤ n → ¬ ge_meet (ge_sc n c) (ge_sc n d) (ge_sc n m) (n * m.1 + v.1, n * m.2 + v.2) := by
  obtain ⟨u1, u2, h1, h2⟩ := ge_part h
  refine ⟨(u1 * v.1 + u2 * v.2).natAbs + 1, by omega, fun n hn hm => ?_⟩
  obtain ⟨i, j, k, l, hi, hj, hk, hl, h5, h6, h7, h8⟩ := hm
  simp only [ge_sc] at h7 h8
  have q1 := Int.mul_nonneg hi (show 0 ≤ (u1 * (m.1 - c.1) + u2 * (m.2 - c.2)) - 1 by omega)
  have q2 := Int.mul_nonneg hj (show 0 ≤ (u1 * (m.1 - d.1) + u2 * (m.2 - d.2)) - 1 by omega)
  have hn0 : 0 < n := by omega
  have q3 := Int.mul_nonneg (show 0 ≤ n by omega) q1
  have q4 := Int.mul_nonneg (show 0 ≤ n by omega) q2
  -- (i + j) n <= the height of the common place over the line = - l (u . v)
  have key : n * (i * (u1 * (m.1 - c.1) + u2 * (m.2 - c.2)) + j * (u1 * (m.1 - d.1) + u2 * (m.2 - d.2))) = - (l * (u1 * v.1 + u2 * v.2)) := by
    have e0 : i = k + l - j := by omega
    subst e0
    clear q1 q2 q3 q4 h1 h2 hn hn0
    grind
  have q5 : n * (i + j) ≤ - (l * (u1 * v.1 + u2 * v.2)) := by rw [← key]; grind
  have q6 := Int.mul_nonneg hl (show 0 ≤ n - 1 + (u1 * v.1 + u2 * v.2) by omega)
  have q7 := Int.mul_nonneg hk (show 0 ≤ n by omega)
  rw [h6] at q5
  have : l = 0 ∨ 0 < l := by omega
  rcases this with h0 | h0
  · subst h0
    have := Int.mul_pos hn0 (show 0 < k by omega)
    grind
  · grind
theorem ge_eps {m : ge_P} (v : ge_P) : ∀ l : List (ge_P × ge_P), (∀ e ∈ l, ¬ ge_meet e.1 e.2 m m) → ∃ n0 : Int, 0 < n0 ∧ ∀ n, n0 ≤ n → ∀ e ∈ l, ¬ ge_meet (ge_sc n e.1) (ge_sc n e.2) (ge_sc n m) (n * m.1 + v.1, n * m.2 + v.2)
  | [], _ => ⟨1, by omega, fun _ _ e he => by simp at he⟩
  | e :: l, h => by
    obtain ⟨n1, h1, h2⟩ := ge_eps1 v (h e (by simp))
    obtain ⟨n2, h3, h4⟩ := ge_eps v l (fun f hf => h f (by simp [hf]))
    refine ⟨n1 + n2, by omega, fun n hn f hf => ?_⟩
    rcases List.mem_cons.mp hf with g | g
    · subst g; exact h2 n (by omega)
    · exact h4 n (by omega) f g
/-- the empty triangle of a corner is free of the other edges -/
theorem ge_free {p b a : ge_P} {M : List ge_P} (hP : ge_S (p :: b :: M ++ [a])) (hM : M ≠ []) (hD : 0 < ge_x a p b) (hem : ∀ v ∈ M, ¬ ge_in a p b v) {e : ge_P × ge_P} (he : e ∈ ge_E (b :: M ++ [a])) {k l : Int} (hk : 0 ≤ k) (hl : 0 ≤ l) (hkl : 0 < k + l)
    (p1 : 0 ≤ k * ge_x a p e.1 + l * ge_x a p e.2) (p2 : 0 ≤ k * ge_x p b e.1 + l * ge_x p b e.2) (p3 : 0 ≤ k * ge_x b a e.1 + l * ge_x b a e.2) :
    k * ge_x b a e.1 + l * ge_x b a e.2 = 0 ∧ ((k * ge_x a p e.1 + l * ge_x a p e.2 = 0 ∨ k * ge_x p b e.1 + l * ge_x p b e.2 = 0)) := by
  have z3 := ge_x_00 b a
  have hm := ge_E_mem he
  have far : ∀ c d : ge_P, ∀ k l : Int, ((c = e.1 ∧ d = e.2) ∨ (c = e.2 ∧ d = e.1)) → 0 ≤ k → 0 ≤ l → 0 < k + l → 0 ≤ k * ge_x a p c + l * ge_x a p d → 0 ≤ k * ge_x p b c + l * ge_x p b d → 0 < k * ge_x b a c + l * ge_x b a d → c ∈ b :: M ++ [a] → ¬ 0 < ge_x b a c := by
    intro c d k l hcd hk hl hkl b1 b2 b3 hc h
    rcases Int.lt_or_le (ge_x a p c) 0 with q1 | q1
    · exact ge_NX hP hD he hcd hk hl hkl (by omega) (by omega) (by omega) (by omega) (.inl q1) (.inl b3)
    · rcases Int.lt_or_le (ge_x p b c) 0 with q2 | q2
      · exact ge_NX hP hD he hcd hk hl hkl (by omega) (by omega) (by omega) (by omega) (.inr q2) (.inl b3)
      · simp at hc
        rcases hc with g | g | g
        · subst g; omega
        · exact hem c g ⟨q1, q2, by omega⟩
        · subst g; omega
  have h3 : k * ge_x b a e.1 + l * ge_x b a e.2 = 0 := by
    rcases (show k * ge_x b a e.1 + l * ge_x b a e.2 = 0 ∨ 0 < k * ge_x b a e.1 + l * ge_x b a e.2 by omega) with h | h
    · exact h
    · exfalso
      have f1 := far e.1 e.2 k l (.inl ⟨rfl, rfl⟩) hk hl hkl p1 p2 h hm.1
      have f2 := far e.2 e.1 l k (.inr ⟨rfl, rfl⟩) hl hk (by omega) (by omega) (by omega) (by omega) hm.2
      have n1 := Int.mul_nonneg hk (show 0 ≤ - ge_x b a e.1 by omega)
      have n2 := Int.mul_nonneg hl (show 0 ≤ - ge_x b a e.2 by omega)
      grind
  refine ⟨h3, ?_⟩
  have hcf := ge_ear_cf hP hM hD hem he
  have s1 := (ge_bary a p b e.1).1
  have s2 := (ge_bary a p b e.2).1
  have hw : ge_wt a b e.1 e.2 (k * ge_x p b e.1 + l * ge_x p b e.2) (k * ge_x a p e.1 + l * ge_x a p e.2) (ge_x a p b * k) (ge_x a p b * l) := by
    have hs : (k * ge_x p b e.1 + l * ge_x p b e.2) + (k * ge_x a p e.1 + l * ge_x a p e.2) = ge_x a p b * (k + l) := by
      have e3 : ge_x p b e.1 = ge_x a p b - ge_x b a e.1 - ge_x a p e.1 := by omega
      have e4 : ge_x p b e.2 = ge_x a p b - ge_x b a e.2 - ge_x a p e.2 := by omega
      rw [e3, e4]
      clear far hcf s1 s2 e3 e4 p1 p2 p3
      grind
    have hpos := Int.mul_pos hD hkl
    refine ⟨p2, p1, Int.mul_nonneg (by omega) hk, Int.mul_nonneg (by omega) hl, by omega, by rw [hs, Int.mul_add], ?_, ?_⟩
    · clear hs far hcf s1 s2 p1 p2 p3 hpos
      unfold ge_x at *; grind
    · clear hs far hcf s1 s2 p1 p2 p3 hpos
      unfold ge_x at *; grind
  rcases hcf _ _ _ _ hw with ⟨h, -⟩ | ⟨h, -⟩
  · exact .inr h
  · exact .inl h
/-- over the side from a to b, from p -/
theorem ge_over {p b a : ge_P} {M : List ge_P} (hD : ge_x a p b ≠ 0) (hfree : ∀ e ∈ ge_E (b :: M ++ [a]), ¬ ge_meet (ge_sc 2 e.1) (ge_sc 2 e.2) (ge_sc 2 p) (a.1 + b.1, a.2 + b.2)) :
    ∃ (n : Int) (y : ge_P), 0 < n ∧ ge_off y ((b :: M ++ [a]).map (ge_sc n)) ∧ (0 < ge_x a p b → ge_W y ((b :: M ++ [a]).map (ge_sc n)) = ge_W p (b :: M ++ [a]) - 1) ∧ (ge_x a p b < 0 → ge_W y ((b :: M ++ [a]).map (ge_sc n)) = ge_W p (b :: M ++ [a]) + 1) := by
  have hoff : ∀ f ∈ (ge_E (b :: M ++ [a])).map (fun e => (ge_sc 2 e.1, ge_sc 2 e.2)), ¬ ge_meet f.1 f.2 (a.1 + b.1, a.2 + b.2) (a.1 + b.1, a.2 + b.2) := by
    intro f hf hm
    obtain ⟨e, he, rfl⟩ := List.mem_map.mp hf
    obtain ⟨i, j, k, l, hi, hj, hk, hl, h5, h6, h7, h8⟩ := hm
    exact hfree e he ⟨i, j, 0, k + l, hi, hj, by omega, by omega, h5, by omega, by grind, by grind⟩
  obtain ⟨n, hn, hN⟩ := ge_eps (m := (a.1 + b.1, a.2 + b.2)) (a.1 + b.1 - 2 * p.1, a.2 + b.2 - 2 * p.2) _ hoff
  have hN := hN n (by omega)
  let x : ge_P := ge_sc (n * 2) p
  let y : ge_P := (n * (a.1 + b.1) + (a.1 + b.1 - 2 * p.1), n * (a.2 + b.2) + (a.2 + b.2 - 2 * p.2))
  have hx1 : x.1 = n * 2 * p.1 := rfl
  have hx2 : x.2 = n * 2 * p.2 := rfl
  have hy1 : y.1 = n * (a.1 + b.1) + (a.1 + b.1 - 2 * p.1) := rfl
  have hy2 : y.2 = n * (a.2 + b.2) + (a.2 + b.2 - 2 * p.2) := rfl
  have hmid : ∀ e ∈ ge_E (b :: M ++ [a]), ¬ ge_meet (ge_sc (n * 2) e.1) (ge_sc (n * 2) e.2) x y := by
    intro e he hm
    have h1 := hfree e he
    have h2 := hN _ (List.mem_map.mpr ⟨e, he, rfl⟩)
    dsimp only at h2
    obtain ⟨i, j, k, l, hi, hj, hk, hl, h5, h6, h7, h8⟩ := hm
    rw [hx1, hy1] at h7
    rw [hx2, hy2] at h8
    simp only [ge_sc] at h7 h8
    rcases Int.lt_or_le l (k * n) with hlk | hlk
    · apply h1
      have t1 := Int.mul_nonneg (show 0 ≤ n by omega) hi
      have t2 := Int.mul_nonneg (show 0 ≤ n by omega) hj
      have t3 := Int.mul_nonneg (show 0 ≤ n by omega) hl
      have t4 := Int.mul_pos hn h5
      have e0 : n * i + n * j = k * n + n * l := by rw [← Int.mul_add, h6, Int.mul_add, Int.mul_comm n k]
      refine ⟨n * i, n * j, k * n - l, n * l + l, t1, t2, by omega, by omega, by rw [← Int.mul_add]; exact t4, by omega, ?_, ?_⟩
      · apply Int.eq_of_mul_eq_mul_left (show n ≠ 0 by omega)
        simp only [ge_sc]
        have e1 : i = k + l - j := by omega
        subst e1
        clear e0 t1 t2 t3 t4 hlk h1 h2 hoff hN hfree
        grind
      · apply Int.eq_of_mul_eq_mul_left (show n ≠ 0 by omega)
        simp only [ge_sc]
        have e1 : i = k + l - j := by omega
        subst e1
        clear e0 t1 t2 t3 t4 hlk h1 h2 hoff hN hfree
        grind
    · apply h2
      have t1 := Int.mul_nonneg hk (show 0 ≤ n by omega)
      refine ⟨i, j, k + k * n, l - k * n, hi, hj, by omega, by omega, h5, by omega, ?_, ?_⟩
      · simp only [ge_sc]; clear h1 h2 hoff hN hfree; grind
      · simp only [ge_sc]; clear h1 h2 hoff hN hfree; grind
  have hpp : 0 < n * 2 := by omega
  have sA : ge_x x y (ge_sc (n * 2) a) = (n * 2 * (n + 1)) * ge_x a p b := by unfold ge_x; rw [hx1, hx2, hy1, hy2]; simp only [ge_sc]; clear hoff hN hfree hmid; grind
  have sB : ge_x x y (ge_sc (n * 2) b) = - ((n * 2 * (n + 1)) * ge_x a p b) := by unfold ge_x; rw [hx1, hx2, hy1, hy2]; simp only [ge_sc]; clear hoff hN hfree hmid; grind
  have sx : ge_x (ge_sc (n * 2) a) (ge_sc (n * 2) b) x = - ((n * 2 * (n * 2)) * ge_x a p b) := by unfold ge_x; rw [hx1, hx2]; simp only [ge_sc]; clear hoff hN hfree hmid; grind
  have sy : ge_x (ge_sc (n * 2) a) (ge_sc (n * 2) b) y = (n * 2 * 2) * ge_x a p b := by unfold ge_x; rw [hy1, hy2]; simp only [ge_sc]; clear hoff hN hfree hmid; grind
  have c1 : 0 < n * 2 * (n + 1) := Int.mul_pos hpp (by omega)
  have c2 : 0 < n * 2 * (n * 2) := Int.mul_pos hpp hpp
  have c3 : 0 < n * 2 * 2 := by omega
  have emap : (b :: M ++ [a]).map (ge_sc (n * 2)) = ge_sc (n * 2) b :: M.map (ge_sc (n * 2)) ++ [ge_sc (n * 2) a] := by simp
  have hmidE : ∀ e ∈ ge_E (ge_sc (n * 2) b :: M.map (ge_sc (n * 2)) ++ [ge_sc (n * 2) a]), ¬ ge_meet e.1 e.2 x y := by
    intro e he
    rw [← emap, ge_E_map] at he
    obtain ⟨e0, he0, rfl⟩ := List.mem_map.mp he
    exact hmid e0 he0
  have hWx : ge_W x ((b :: M ++ [a]).map (ge_sc (n * 2))) = ge_W p (b :: M ++ [a]) := ge_W_sc hpp p _
  have tele1 : x.2 ≤ y.2 → ge_C x (ge_sc (n * 2) b :: M.map (ge_sc (n * 2)) ++ [ge_sc (n * 2) a]) - ge_C y (ge_sc (n * 2) b :: M.map (ge_sc (n * 2)) ++ [ge_sc (n * 2) a]) = ge_g x y (ge_sc (n * 2) a) - ge_g x y (ge_sc (n * 2) b) :=
    fun hxy => ge_tele _ _ _ _ (fun e he => ge_loc (hmidE e he) hxy)
  have tele2 : y.2 ≤ x.2 → ge_C y (ge_sc (n * 2) b :: M.map (ge_sc (n * 2)) ++ [ge_sc (n * 2) a]) - ge_C x (ge_sc (n * 2) b :: M.map (ge_sc (n * 2)) ++ [ge_sc (n * 2) a]) = ge_g y x (ge_sc (n * 2) a) - ge_g y x (ge_sc (n * 2) b) :=
    fun hxy => ge_tele _ _ _ _ (fun e he => ge_loc (fun z => hmidE e he (ge_meet_swap2 z)) hxy)
  have swx := ge_w_swap x (ge_sc (n * 2) a) (ge_sc (n * 2) b)
  have swy := ge_w_swap y (ge_sc (n * 2) a) (ge_sc (n * 2) b)
  refine ⟨n * 2, y, hpp, ?_, fun hD' => ?_, fun hD' => ?_⟩
  · intro e he hm
    rw [emap, ge_Ed_line, List.mem_append, List.mem_singleton] at he
    have hm2 : ge_meet e.1 e.2 x y := by
      obtain ⟨i, j, k, l, hi, hj, hk, hl, h5, h6, h7, h8⟩ := hm
      exact ⟨i, j, 0, k + l, hi, hj, by omega, by omega, h5, by omega, by grind, by grind⟩
    rcases he with he | he
    · exact hmidE e he hm2
    · subst he
      obtain ⟨i, j, k, l, hw⟩ := hm
      have hpos : 0 < k + l := by obtain ⟨-, -, -, -, h5, h6, -⟩ := hw; omega
      have := ge_aff hw (ge_sc (n * 2) a) (ge_sc (n * 2) b)
      have z := ge_x_00 (ge_sc (n * 2) a) (ge_sc (n * 2) b)
      rw [z.1, z.2.1, sy] at this
      have q : (k + l) * (n * 2 * 2 * ge_x a p b) = 0 := by rw [Int.add_mul]; simpa using this
      rcases Int.mul_eq_zero.mp q with q | q
      · omega
      · rcases Int.mul_eq_zero.mp q with q | q
        · omega
        · exact hD q
  · have q1 := Int.mul_pos c1 hD'
    have q2 := Int.mul_pos c2 hD'
    have q3 := Int.mul_pos c3 hD'
    rw [← hWx, emap, ge_W_line, ge_W_line]
    rcases Int.le_total x.2 y.2 with h | h
    · have t := tele1 h
      have cr := ge_cross (a := ge_sc (n * 2) a) (b := ge_sc (n * 2) b) h (by omega) (by omega) (by omega) (by omega)
      omega
    · have t := tele2 h
      have r1 := ge_x_swap x y (ge_sc (n * 2) a)
      have r2 := ge_x_swap x y (ge_sc (n * 2) b)
      have r3 := ge_x_swap (ge_sc (n * 2) a) (ge_sc (n * 2) b) x
      have r4 := ge_x_swap (ge_sc (n * 2) a) (ge_sc (n * 2) b) y
      have cr := ge_cross (a := ge_sc (n * 2) b) (b := ge_sc (n * 2) a) h (by omega) (by omega) (by omega) (by omega)
      omega
  · have q1 := Int.mul_pos c1 (show 0 < - ge_x a p b by omega)
    have q2 := Int.mul_pos c2 (show 0 < - ge_x a p b by omega)
    have q3 := Int.mul_pos c3 (show 0 < - ge_x a p b by omega)
    rw [Int.mul_neg] at q1 q2 q3
    rw [← hWx, emap, ge_W_line, ge_W_line]
    rcases Int.le_total x.2 y.2 with h | h
    · have t := tele1 h
      have r3 := ge_x_swap (ge_sc (n * 2) a) (ge_sc (n * 2) b) x
      have r4 := ge_x_swap (ge_sc (n * 2) a) (ge_sc (n * 2) b) y
      have cr := ge_cross (a := ge_sc (n * 2) b) (b := ge_sc (n * 2) a) h (by omega) (by omega) (by omega) (by omega)
      omega
    · have t := tele2 h
      have r1 := ge_x_swap x y (ge_sc (n * 2) a)
      have r2 := ge_x_swap x y (ge_sc (n * 2) b)
      have cr := ge_cross (a := ge_sc (n * 2) a) (b := ge_sc (n * 2) b) h (by omega) (by omega) (by omega) (by omega)
      omega
end
section
/-! the sense of a polygon: how it turns at its lowest corner -/
def ge_Sg (P : List ge_P) (D : Int) : Prop := ∃ (L1 L2 : List ge_P) (p b a : ge_P) (M : List ge_P), P = L1 ++ L2 ∧ L2 ++ L1 = p :: b :: M ++ [a] ∧ (∀ v ∈ b :: M ++ [a], ge_lt p v) ∧ D = ge_x a p b
theorem ge_lowest : ∀ l : List ge_P, l ≠ [] → ∃ p ∈ l, ∀ v ∈ l, v ≠ p → ge_lt p v
  | [], h => absurd rfl h
  | [a], _ => ⟨a, by simp, fun v hv hne => by simp at hv; exact absurd hv hne⟩
  | a :: b :: l, _ => by
    obtain ⟨p, hp, hm⟩ := ge_lowest (b :: l) (by simp)
    by_cases h : ge_lt a p
    · refine ⟨a, by simp, fun v hv hne => ?_⟩
      rcases List.mem_cons.mp hv with g | g
      · exact absurd g hne
      · by_cases hvp : v = p
        · subst hvp; exact h
        · have := hm v g hvp
          unfold ge_lt at *; omega
    · refine ⟨p, List.mem_cons_of_mem _ hp, fun v hv hne => ?_⟩
      rcases List.mem_cons.mp hv with g | g
      · subst g
        have : v.1 ≠ p.1 ∨ v.2 ≠ p.2 := by
          by_cases h1 : v.1 = p.1
          · exact .inr (fun h2 => hne (Prod.ext h1 h2))
          · exact .inl h1
        unfold ge_lt at *; omega
      · exact hm v g hne
theorem ge_form3 (L : List ge_P) (h : 3 ≤ L.length) : ∃ p b M a, L = p :: b :: M ++ [a] := by
  match L, h with
  | p :: b :: R, h =>
    rcases List.eq_nil_or_concat R with g | ⟨M, a, g⟩
    · subst g; simp at h
    · exact ⟨p, b, M, a, by rw [g]; simp⟩
theorem ge_Sg_ex {P : List ge_P} (h : ge_S P) : ∃ D, ge_Sg P D := by
  have hne : P ≠ [] := by intro g; have := h.2.1; rw [g] at this; simp at this
  obtain ⟨p, hp, hm⟩ := ge_lowest P hne
  obtain ⟨L1, L2, hL⟩ := List.append_of_mem hp
  obtain ⟨p', b, M, a, hf⟩ := ge_form3 (p :: L2 ++ L1) (by have := h.2.1; rw [hL] at this; simp at this ⊢; omega)
  have hpp : p' = p := by simp at hf; exact hf.1.symm
  subst hpp
  refine ⟨_, L1, p' :: L2, p', b, a, M, hL, hf, ?_, rfl⟩
  intro v hv
  have hn : (p' :: L2 ++ L1).Nodup := by have := h.1; rw [hL] at this; exact List.perm_append_comm.nodup_iff.mp this
  rw [hf] at hn
  have hvne : v ≠ p' := by rintro rfl; simp at hn hv; grind
  apply hm v _ hvne
  have : v ∈ p' :: L2 ++ L1 := by rw [hf]; simp at hv ⊢; grind
  rw [hL]
  simp at this ⊢; grind
/-- at its lowest corner it turns -/
theorem ge_turns {p b a : ge_P} {M : List ge_P} (hP : ge_S (p :: b :: M ++ [a])) (hlow : ∀ v ∈ b :: M ++ [a], ge_lt p v) : ge_x a p b ≠ 0 := by
  intro h0
  have hn := hP.1
  have hab : a ≠ b := by rintro rfl; simp at hn
  have la := hlow a (by simp)
  have lb := hlow b (by simp)
  have hEd := ge_Ed_cons p b a M
  have f1 : (a, p) ∈ ge_Ed (p :: b :: M ++ [a]) := by rw [hEd]; simp
  have f2 : (p, b) ∈ ge_Ed (p :: b :: M ++ [a]) := by rw [hEd]; simp
  have hap : a ≠ p := by rintro rfl; simp at hn
  have hbp : b ≠ p := by rintro rfl; simp at hn
  have one : ∀ i k l : Int, ge_wt a a p b i 0 k l → False := by
    intro i k l hw
    rcases ge_V hP (by simp) f2 hw with ⟨g, -⟩ | ⟨g, -⟩
    · exact hap g
    · exact hab g
  have two : ∀ i k l : Int, ge_wt b b a p i 0 k l → False := by
    intro i k l hw
    rcases ge_V hP (by simp) f1 hw with ⟨g, -⟩ | ⟨g, -⟩
    · exact hab g.symm
    · exact hbp g
  unfold ge_x at h0
  by_cases hz : p.2 < a.2
  · have hb2 : p.2 < b.2 := by
      rcases lb with g | g
      · exact g
      · exfalso
        have e1 : b.2 = p.2 := g.1.symm
        have := Int.mul_pos (show 0 < a.2 - p.2 by omega) (show 0 < b.1 - p.1 by omega)
        rw [e1] at h0
        grind
    rcases Int.le_total a.2 b.2 with g | g
    · exact one (b.2 - p.2) (b.2 - a.2) (a.2 - p.2) ⟨by omega, by omega, by omega, by omega, by omega, by omega, by grind, by grind⟩
    · exact two (a.2 - p.2) (b.2 - p.2) (a.2 - b.2) ⟨by omega, by omega, by omega, by omega, by omega, by omega, by grind, by grind⟩
  · have e1 : a.2 = p.2 := by rcases la with g | g <;> omega
    have ha1 : p.1 < a.1 := by rcases la with g | g <;> omega
    have e2 : b.2 = p.2 := by
      rcases lb with g | g
      · exfalso
        have := Int.mul_pos (show 0 < b.2 - p.2 by omega) (show 0 < a.1 - p.1 by omega)
        rw [e1] at h0
        grind
      · exact g.1.symm
    have hb1 : p.1 < b.1 := by rcases lb with g | g <;> omega
    rcases Int.le_total a.1 b.1 with g | g
    · exact one (b.1 - p.1) (b.1 - a.1) (a.1 - p.1) ⟨by omega, by omega, by omega, by omega, by omega, by omega, by grind, by grind⟩
    · exact two (a.1 - p.1) (b.1 - p.1) (a.1 - b.1) ⟨by omega, by omega, by omega, by omega, by omega, by omega, by grind, by grind⟩
theorem ge_Sg_ne {P : List ge_P} (h : ge_S P) {D : Int} (hD : ge_Sg P D) : D ≠ 0 := by
  obtain ⟨L1, L2, p, b, a, M, h1, h2, h3, h4⟩ := hD
  subst h1
  have := ge_S_rot h
  rw [h2] at this
  rw [h4]
  exact ge_turns this h3
theorem ge_Sg_sc {n : Int} (hn : 0 < n) {P : List ge_P} {D : Int} (h : ge_Sg P D) : ge_Sg (P.map (ge_sc n)) (n * n * D) := by
  obtain ⟨L1, L2, p, b, a, M, h1, h2, h3, h4⟩ := h
  refine ⟨L1.map (ge_sc n), L2.map (ge_sc n), ge_sc n p, ge_sc n b, ge_sc n a, M.map (ge_sc n), by rw [h1]; simp, by have := congrArg (List.map (ge_sc n)) h2; simpa using this, ?_, by rw [ge_x_sc, h4]⟩
  intro v hv
  have : v ∈ (b :: M ++ [a]).map (ge_sc n) := by simpa using hv
  obtain ⟨w, hw, rfl⟩ := List.mem_map.mp this
  have := h3 w hw
  unfold ge_lt ge_sc at *
  rcases this with g | g
  · left; exact (ge_sc_lt hn).1.mpr g
  · right; exact ⟨by rw [g.1], (ge_sc_lt hn).1.mpr g.2⟩
theorem ge_off_rot {x : ge_P} {L1 L2 : List ge_P} (h : ge_off x (L1 ++ L2)) : ge_off x (L2 ++ L1) := fun e he => h e ((ge_Ed_rot L1 L2 e).mpr he)
/-- a little aside: off a segment too -/
theorem ge_shift {x : ge_P} {P : List ge_P} (h : ge_off x P) {u w : ge_P} (huw : u ≠ w) : ∃ (n : Int) (y : ge_P), 0 < n ∧ ge_off y (P.map (ge_sc n)) ∧ ge_W y (P.map (ge_sc n)) = ge_W x P ∧ ¬ ge_meet (ge_sc n u) (ge_sc n w) y y := by
  by_cases hx : ge_meet u w x x
  · obtain ⟨n, hn, hN⟩ := ge_eps (m := x) (-(w.2 - u.2), w.1 - u.1) (ge_Ed P) h
    have hN := hN n (by omega)
    refine ⟨n, (n * x.1 + -(w.2 - u.2), n * x.2 + (w.1 - u.1)), hn, ?_, ?_, ?_⟩
    · intro e he hm
      rw [ge_Ed_map] at he
      obtain ⟨e0, he0, rfl⟩ := List.mem_map.mp he
      obtain ⟨i, j, k, l, hi, hj, hk, hl, h5, h6, h7, h8⟩ := hm
      exact hN e0 he0 ⟨i, j, 0, k + l, hi, hj, by omega, by omega, h5, by omega, by dsimp only at h7 ⊢; grind, by dsimp only at h8 ⊢; grind⟩
    · rw [← ge_W_sc hn x P]
      symm
      apply ge_J1
      intro e he
      rw [ge_Ed_map] at he
      obtain ⟨e0, he0, rfl⟩ := List.mem_map.mp he
      exact hN e0 he0
    · intro hm
      obtain ⟨i, j, k, l, hw⟩ := hm
      have hpos : 0 < k + l := by obtain ⟨-, -, -, -, h5, h6, -⟩ := hw; omega
      have a1 := ge_aff hw (ge_sc n u) (ge_sc n w)
      have z := ge_x_00 (ge_sc n u) (ge_sc n w)
      rw [z.1, z.2.1] at a1
      obtain ⟨i', j', k', l', hw'⟩ := hx
      have hpos' : 0 < k' + l' := by obtain ⟨-, -, -, -, h5, h6, -⟩ := hw'; omega
      have a2 := ge_aff hw' u w
      have z' := ge_x_00 u w
      rw [z'.1, z'.2.1] at a2
      have b2 : (k' + l') * ge_x u w x = 0 := by rw [Int.add_mul]; simpa using a2
      have b3 : ge_x u w x = 0 := by rcases Int.mul_eq_zero.mp b2 with g | g <;> omega
      have b1 : (k + l) * ge_x (ge_sc n u) (ge_sc n w) (n * x.1 + -(w.2 - u.2), n * x.2 + (w.1 - u.1)) = 0 := by rw [Int.add_mul]; simpa using a1
      have b4 : ge_x (ge_sc n u) (ge_sc n w) (n * x.1 + -(w.2 - u.2), n * x.2 + (w.1 - u.1)) = 0 := by rcases Int.mul_eq_zero.mp b1 with g | g <;> omega
      have b5 : ge_x (ge_sc n u) (ge_sc n w) (n * x.1 + -(w.2 - u.2), n * x.2 + (w.1 - u.1)) = n * n * ge_x u w x + n * ((w.1 - u.1) * (w.1 - u.1) + (w.2 - u.2) * (w.2 - u.2)) := by unfold ge_x ge_sc; grind
      rw [b3, b4] at b5
      have b6 : n * ((w.1 - u.1) * (w.1 - u.1) + (w.2 - u.2) * (w.2 - u.2)) = 0 := by omega
      have sq : ∀ t : Int, 0 ≤ t * t ∧ (t ≠ 0 → 0 < t * t) := fun t => by
        rcases (show 0 < t ∨ t = 0 ∨ 0 < -t by omega) with h | h | h
        · have := Int.mul_pos h h; exact ⟨by omega, fun _ => this⟩
        · subst h; simp
        · have := Int.mul_pos h h; have e : -t * -t = t * t := by grind
          rw [e] at this; exact ⟨by omega, fun _ => this⟩
      have c1 := sq (w.1 - u.1)
      have c2 := sq (w.2 - u.2)
      rcases Int.mul_eq_zero.mp b6 with g | g
      · omega
      · apply huw
        exact Prod.ext (by by_cases q : w.1 - u.1 = 0; · omega
                           · have := c1.2 q; omega) (by by_cases q : w.2 - u.2 = 0; · omega
                                                        · have := c2.2 q; omega)
  · have h1 : ∀ z : ge_P, ge_sc 1 z = z := fun z => by unfold ge_sc; simp
    have h2 : P.map (ge_sc 1) = P := by
      have : ge_sc 1 = id := funext h1
      rw [this]; simp
    exact ⟨1, x, by omega, by rw [h2]; exact h, by rw [h2], by rw [h1, h1]; exact hx⟩
/-- the farthest corner in the triangle, whichever way it turns -/
theorem ge_chordP {p b a : ge_P} {M : List ge_P} (hP : ge_S (p :: b :: M ++ [a])) (hD : 0 < ge_x a p b) (hv : ∃ v ∈ M, ge_in a p b v) : ∃ q ∈ M, ge_in a p b q ∧ 0 < ge_x a p q ∧ 0 < ge_x p b q ∧ ∀ e ∈ ge_Ed (p :: b :: M ++ [a]), ge_cf p q e := by
  obtain ⟨q, hq, hin, hmax⟩ := ge_max (ge_in a p b) (ge_x b a) M hv
  have hn := hP.1
  have hqP : q ∈ p :: b :: M ++ [a] := by simp [hq]
  have hqp : q ≠ p := by rintro rfl; simp at hn; grind
  have hqb : q ≠ b := by rintro rfl; simp at hn; grind
  have hqa : q ≠ a := by rintro rfl; simp at hn; grind
  obtain ⟨t1, t2, t3⟩ := id hin
  obtain ⟨s1, s2, s3⟩ := ge_bary a p b q
  have hEd := ge_Ed_cons p b a M
  refine ⟨q, hq, hin, ?_, ?_, fun e he => ge_chord hP hD hq hin hmax he⟩
  · rcases (show 0 < ge_x a p q ∨ ge_x a p q = 0 by omega) with h | y
    · exact h
    · exfalso
      have := ge_V hP hqP (e := (a, p)) (by rw [hEd]; simp) (i := ge_x a p b) (j := 0) (k := ge_x p b q) (l := ge_x b a q) ⟨by omega, by omega, by omega, by omega, by omega, by omega, by grind, by grind⟩
      rcases this with ⟨h, -⟩ | ⟨h, -⟩
      · exact hqa h
      · exact hqp h
  · rcases (show 0 < ge_x p b q ∨ ge_x p b q = 0 by omega) with h | y
    · exact h
    · exfalso
      have := ge_V hP hqP (e := (p, b)) (by rw [hEd]; simp) (i := ge_x a p b) (j := 0) (k := ge_x b a q) (l := ge_x a p q) ⟨by omega, by omega, by omega, by omega, by omega, by omega, by grind, by grind⟩
      rcases this with ⟨h, -⟩ | ⟨h, -⟩
      · exact hqp h
      · exact hqb h
/-- two numbers of one sign -/
def ge_ss (D E : Int) : Prop := (0 < D ∧ 0 < E) ∨ (D < 0 ∧ E < 0)
theorem ge_chordS {p b a : ge_P} {M : List ge_P} (hP : ge_S (p :: b :: M ++ [a])) (hv : ∃ v ∈ M, ge_inS a p b v) : ∃ q ∈ M, ge_inS a p b q ∧ ge_ss (ge_x a p b) (ge_x a p q) ∧ ge_ss (ge_x a p b) (ge_x p b q) ∧ ∀ e ∈ ge_Ed (p :: b :: M ++ [a]), ge_cf p q e := by
  obtain ⟨v, hvM, hvi⟩ := hv
  rcases hvi with ⟨hD, hvi⟩ | ⟨hD, hvi⟩
  · obtain ⟨q, hq, hin, h1, h2, h3⟩ := ge_chordP hP hD ⟨v, hvM, hvi⟩
    exact ⟨q, hq, .inl ⟨hD, hin⟩, .inl ⟨hD, h1⟩, .inl ⟨hD, h2⟩, h3⟩
  · have hP' := ge_S_m hP
    have e0 : (p :: b :: M ++ [a]).map ge_m = ge_m p :: ge_m b :: M.map ge_m ++ [ge_m a] := by simp
    rw [e0] at hP'
    obtain ⟨q', hq', hin, h1, h2, h3⟩ := ge_chordP hP' (by rw [ge_x_m]; omega) ⟨ge_m v, List.mem_map.mpr ⟨v, hvM, rfl⟩, ge_in_m.mpr hvi⟩
    obtain ⟨q, hq, rfl⟩ := List.mem_map.mp hq'
    rw [ge_x_m] at h1 h2
    refine ⟨q, hq, .inr ⟨hD, ge_in_m.mp hin⟩, .inr ⟨hD, by omega⟩, .inr ⟨hD, by omega⟩, fun e he => ge_cf_m (h3 _ ?_)⟩
    rw [← e0, ge_Ed_map]
    exact List.mem_map.mpr ⟨e, he, rfl⟩
/-- both parts beside a chord -/
theorem ge_S_parts {p b q a : ge_P} {M2 M1 : List ge_P} (hP : ge_S (p :: b :: (M2 ++ q :: M1) ++ [a])) (hc : ∀ e ∈ ge_Ed (p :: b :: (M2 ++ q :: M1) ++ [a]), ge_cf p q e) : ge_S (p :: b :: M2 ++ [q]) ∧ ge_S (p :: q :: M1 ++ [a]) := by
  have hn := hP.1
  have s2 : ∀ e ∈ ge_E (p :: (b :: M2) ++ [q]), e ∈ ge_Ed (p :: b :: (M2 ++ q :: M1) ++ [a]) := by
    intro e he
    have h := ge_E_app (p :: b :: M2) (M1 ++ [a, p]) q
    have e0 : ge_cl (p :: b :: (M2 ++ q :: M1) ++ [a]) = (p :: b :: M2) ++ q :: (M1 ++ [a, p]) := by simp [ge_cl]
    unfold ge_Ed
    rw [e0, h]
    exact List.mem_append_left _ he
  have s1 : ∀ e ∈ ge_E (q :: (M1 ++ [a]) ++ [p]), e ∈ ge_Ed (p :: b :: (M2 ++ q :: M1) ++ [a]) := by
    intro e he
    have h := ge_E_app (p :: b :: M2) (M1 ++ [a, p]) q
    have e0 : ge_cl (p :: b :: (M2 ++ q :: M1) ++ [a]) = (p :: b :: M2) ++ q :: (M1 ++ [a, p]) := by simp [ge_cl]
    unfold ge_Ed
    rw [e0, h]
    apply List.mem_append_right
    simpa using he
  constructor
  · exact ge_S_shut (b := p) (M := b :: M2) (a := q) (by simp at hn ⊢; grind) (by simp) (fun e he f hf hne => hP.2.2 e (s2 e he) f (s2 f hf) hne) (fun e he => ge_cf_swap (hc e (s2 e he)))
  · have h := ge_S_shut (b := q) (M := M1 ++ [a]) (a := p) (by simp at hn ⊢; grind) (by simp) (fun e he f hf hne => hP.2.2 e (s1 e he) f (s1 f hf) hne) (fun e he => hc e (s1 e he))
    have := ge_S_rot (l1 := q :: (M1 ++ [a])) (l2 := [p]) h
    simpa using this
theorem ge_TW_swap (x a p b : ge_P) : ge_TW x b p a = - ge_TW x a p b := by
  unfold ge_TW
  have := ge_w_swap x a p
  have := ge_w_swap x p b
  have := ge_w_swap x b a
  omega
theorem ge_triS {x a p b : ge_P} : (0 < ge_x a p b → ge_TW x a p b ≤ 0) ∧ (ge_x a p b < 0 → 0 ≤ ge_TW x a p b) := by
  constructor
  · intro h; exact (ge_tri h).2.2.2
  · intro h
    have e : ge_x b p a = - ge_x a p b := by unfold ge_x; grind
    have := (ge_tri (x := x) (a := b) (b := p) (c := a) (by omega)).2.2.2
    rw [ge_TW_swap] at this
    omega
def ge_AW (P : List ge_P) (D : Int) : Prop := ∀ x, ge_off x P → (0 < D → ge_W x P ≤ 0) ∧ (D < 0 → 0 ≤ ge_W x P)
theorem ge_off_sub {y : ge_P} {P Q : List ge_P} {u w : ge_P} (h : ge_off y P) (hm : ¬ ge_meet u w y y) (hs : ∀ e ∈ ge_Ed Q, e ∈ ge_Ed P ∨ e = (u, w) ∨ e = (w, u)) : ge_off y Q := by
  intro e he hmt
  rcases hs e he with g | g | g
  · exact h e g hmt
  · subst g; exact hm hmt
  · subst g; exact hm (ge_meet_swap hmt)
theorem ge_sc_mem_sub {n : Int} {P Q : List ge_P} {u w : ge_P} (hs : ∀ e ∈ ge_Ed Q, e ∈ ge_Ed P ∨ e = (u, w) ∨ e = (w, u)) : ∀ e ∈ ge_Ed (Q.map (ge_sc n)), e ∈ ge_Ed (P.map (ge_sc n)) ∨ e = (ge_sc n u, ge_sc n w) ∨ e = (ge_sc n w, ge_sc n u) := by
  intro e he
  rw [ge_Ed_map] at he
  obtain ⟨e0, he0, rfl⟩ := List.mem_map.mp he
  rcases hs e0 he0 with g | g | g
  · left; rw [ge_Ed_map]; exact List.mem_map.mpr ⟨e0, g, rfl⟩
  · subst g; exact .inr (.inl rfl)
  · subst g; exact .inr (.inr rfl)
/-- freeness of the way from an empty corner to the side that cuts it off -/
theorem ge_free2 {p b a : ge_P} {M : List ge_P} (hP : ge_S (p :: b :: M ++ [a])) (hM : M ≠ []) (hD : ge_x a p b ≠ 0) (hem : ∀ v ∈ M, ¬ ge_inS a p b v) : ∀ e ∈ ge_E (b :: M ++ [a]), ¬ ge_meet (ge_sc 2 e.1) (ge_sc 2 e.2) (ge_sc 2 p) (a.1 + b.1, a.2 + b.2) := by
  have pos : ∀ {p b a : ge_P} {M : List ge_P}, ge_S (p :: b :: M ++ [a]) → M ≠ [] → 0 < ge_x a p b → (∀ v ∈ M, ¬ ge_in a p b v) → ∀ e ∈ ge_E (b :: M ++ [a]), ¬ ge_meet (ge_sc 2 e.1) (ge_sc 2 e.2) (ge_sc 2 p) (a.1 + b.1, a.2 + b.2) := by
    intro p b a M hP hM hD hem e he hm
    obtain ⟨i, j, k, l, hi, hj, hk, hl, h5, h6, h7, h8⟩ := hm
    simp only [ge_sc] at h7 h8
    have q : ∀ u w : ge_P, 2 * (i * ge_x u w e.1 + j * ge_x u w e.2) = 2 * k * ge_x u w p + l * (ge_x u w a + ge_x u w b) := by
      intro u w
      have e0 : i = k + l - j := by omega
      subst e0
      unfold ge_x
      grind
    have q1 := q a p
    have q2 := q p b
    have q3 := q b a
    have z1 := ge_x_00 a p
    have z2 := ge_x_00 p b
    have z3 := ge_x_00 b a
    have d2 : ge_x p b a = ge_x a p b := (ge_x_rot a p b).symm
    have d3 : ge_x b a p = ge_x a p b := by rw [ge_x_rot, ge_x_rot]
    rw [z1.1, z1.2.1] at q1
    rw [z2.1, z2.2.1, d2] at q2
    rw [z3.1, z3.2.1, d3] at q3
    have m1 := Int.mul_nonneg hl (show 0 ≤ ge_x a p b by omega)
    have m2 := Int.mul_nonneg hk (show 0 ≤ ge_x a p b by omega)
    simp only [Int.mul_zero, Int.zero_add, Int.add_zero] at q1 q2 q3
    rw [Int.mul_assoc] at q3
    have f := ge_free hP hM hD hem he hi hj h5 (by omega) (by omega) (by omega)
    obtain ⟨f1, f2⟩ := f
    have k0 : k = 0 := by
      rcases (show k = 0 ∨ 0 < k by omega) with h | h
      · exact h
      · have := Int.mul_pos h hD; omega
    have l0 : 0 < l := by omega
    have := Int.mul_pos l0 hD
    omega
  rcases (show 0 < ge_x a p b ∨ ge_x a p b < 0 by omega) with h | h
  · exact pos hP hM h (fun v hv hi => hem v hv (.inl ⟨h, hi⟩))
  · intro e he hm
    have hP' := ge_S_m hP
    have e0 : (p :: b :: M ++ [a]).map ge_m = ge_m p :: ge_m b :: M.map ge_m ++ [ge_m a] := by simp
    rw [e0] at hP'
    have e1 : ge_m b :: M.map ge_m ++ [ge_m a] = (b :: M ++ [a]).map ge_m := by simp
    refine pos hP' (by simpa using hM) (by rw [ge_x_m]; omega) ?_ (ge_m e.1, ge_m e.2) (by rw [e1, ge_E_map]; exact List.mem_map.mpr ⟨e, he, rfl⟩) ?_
    · intro v hv hi
      obtain ⟨v0, hv0, rfl⟩ := List.mem_map.mp hv
      exact hem v0 hv0 (.inr ⟨h, ge_in_m.mp hi⟩)
    · obtain ⟨i, j, k, l, hi, hj, hk, hl, h5, h6, h7, h8⟩ := hm
      refine ⟨i, j, k, l, hi, hj, hk, hl, h5, h6, ?_, ?_⟩
      · simp only [ge_sc, ge_m] at h7 ⊢; grind
      · simp only [ge_sc, ge_m] at h8 ⊢; grind
/-- the sense stays where the lowest corner is cut off -/
theorem ge_sense_low {p b a : ge_P} {M : List ge_P} (hP : ge_S (p :: b :: M ++ [a])) (hM : M ≠ []) (hlow : ∀ v ∈ b :: M ++ [a], ge_lt p v) (hem : ∀ v ∈ M, ¬ ge_inS a p b v) {D' : Int} (hD' : ge_Sg (b :: M ++ [a]) D')
    (hA : ∀ n : Int, 0 < n → ge_AW ((b :: M ++ [a]).map (ge_sc n)) (n * n * D')) : ge_ss (ge_x a p b) D' := by
  have hD := ge_turns hP hlow
  have hS' := ge_S_cut hP hM hD hem
  have hD'ne := ge_Sg_ne hS' hD'
  obtain ⟨n, y, hn, hoff, h1, h2⟩ := ge_over hD (ge_free2 hP hM hD hem)
  have hW0 : ge_W p (b :: M ++ [a]) = 0 := ge_W_low hlow
  have := hA n hn y hoff
  have q := ge_sc_pos (a := D') hn
  rcases (show 0 < ge_x a p b ∨ ge_x a p b < 0 by omega) with h | h
  · have := h1 h
    left
    refine ⟨h, ?_⟩
    rcases (show 0 < D' ∨ D' < 0 by omega) with g | g
    · exact g
    · have := this; have := (hA n hn y hoff).2 (q.2.mpr g); omega
  · have := h2 h
    right
    refine ⟨h, ?_⟩
    rcases (show 0 < D' ∨ D' < 0 by omega) with g | g
    · have := (hA n hn y hoff).1 (q.1.mpr g); omega
    · exact g
theorem ge_A : ∀ (n : Nat) (P : List ge_P), P.length ≤ n → ge_S P → ∀ D, ge_Sg P D → ge_AW P D
  | 0, P, hl, hP, _, _ => by have := hP.2.1; omega
  | n + 1, P, hl, hP, D, hD => by
    obtain ⟨L1, L2, p, b, a, M, h1, h2, hlow, h4⟩ := id hD
    subst h1
    have hR := ge_S_rot hP
    rw [h2] at hR
    have hlen : (p :: b :: M ++ [a]).length ≤ n + 1 := by rw [← h2]; simp at hl ⊢; omega
    intro x hx
    have hx' := ge_off_rot hx
    rw [h2] at hx'
    rw [ge_W_rot, h2]
    have hDne := ge_turns hR hlow
    rw [← h4] at hDne
    by_cases hM : M = []
    · subst hM
      have e := ge_W_cut x p b a []
      have e2 : ge_W x (b :: [] ++ [a]) = 0 := by
        have := ge_w_swap x a b
        simp [ge_W, ge_cl, ge_C]; omega
      rw [e, e2, h4]
      have := ge_triS (x := x) (a := a) (p := p) (b := b)
      exact ⟨fun h => by have := this.1 h; omega, fun h => by have := this.2 h; omega⟩
    by_cases hem : ∀ v ∈ M, ¬ ge_inS a p b v
    · -- nothing in the corner's triangle
      have hS' := ge_S_cut hR hM (by omega) hem
      obtain ⟨D', hD'⟩ := ge_Sg_ex hS'
      have hl' : (b :: M ++ [a]).length ≤ n := by simp at hlen ⊢; omega
      have hA : ∀ m : Int, 0 < m → ge_AW ((b :: M ++ [a]).map (ge_sc m)) (m * m * D') := fun m hm => ge_A n _ (by simpa using hl') (ge_S_sc hm hS') _ (ge_Sg_sc hm hD')
      have hss := ge_sense_low hR hM hlow hem hD' hA
      rw [← h4] at hss
      have hab : a ≠ b := by have := hR.1; rintro rfl; simp at this
      obtain ⟨m, y, hm, hy, hWy, hny⟩ := ge_shift hx' (u := a) (w := b) hab
      rw [← hWy]
      have hsub : ∀ e ∈ ge_Ed (b :: M ++ [a]), e ∈ ge_Ed (p :: b :: M ++ [a]) ∨ e = (a, b) ∨ e = (b, a) := by
        intro e he
        rw [ge_Ed_line, List.mem_append, List.mem_singleton] at he
        rcases he with g | g
        · exact .inl (ge_S_mid hR g)
        · exact .inr (.inl g)
      have hoff := ge_off_sub hy hny (ge_sc_mem_sub hsub)
      have hI := hA m hm y hoff
      have e1 : (p :: b :: M ++ [a]).map (ge_sc m) = ge_sc m p :: ge_sc m b :: M.map (ge_sc m) ++ [ge_sc m a] := by simp
      have e2 : (b :: M ++ [a]).map (ge_sc m) = ge_sc m b :: M.map (ge_sc m) ++ [ge_sc m a] := by simp
      rw [e1, ge_W_cut, ← e2]
      have ht := ge_triS (x := y) (a := ge_sc m a) (p := ge_sc m p) (b := ge_sc m b)
      rw [ge_x_sc, (ge_sc_pos hm).1, (ge_sc_pos hm).2, ← h4] at ht
      rw [(ge_sc_pos hm).1, (ge_sc_pos hm).2] at hI
      rcases hss with ⟨g1, g2⟩ | ⟨g1, g2⟩
      · have i1 := hI.1 g2
        have i2 := ht.1 g1
        exact ⟨fun _ => by omega, fun _ => by omega⟩
      · have i1 := hI.2 g2
        have i2 := ht.2 g1
        exact ⟨fun _ => by omega, fun _ => by omega⟩
    · -- a chord
      have hv : ∃ v ∈ M, ge_inS a p b v := by
        simp only [Classical.not_forall, Classical.not_not] at hem
        obtain ⟨v, hv, h⟩ := hem
        exact ⟨v, hv, h⟩
      obtain ⟨q, hq, -, s1, s2, hc⟩ := ge_chordS hR hv
      obtain ⟨M2, M1, rfl⟩ := List.append_of_mem hq
      obtain ⟨hS2, hS1⟩ := ge_S_parts hR hc
      have hpq : p ≠ q := by have := hR.1; rintro rfl; simp at this
      obtain ⟨m, y, hm, hy, hWy, hny⟩ := ge_shift hx' (u := p) (w := q) hpq
      rw [← hWy]
      have sub2 : ∀ e ∈ ge_Ed (p :: b :: M2 ++ [q]), e ∈ ge_Ed (p :: b :: (M2 ++ q :: M1) ++ [a]) ∨ e = (p, q) ∨ e = (q, p) := by
        intro e he
        have h := ge_E_app (b :: M2) (M1 ++ [a]) q
        rcases ge_mem_mid he with g | g | g
        · left; rw [ge_Ed_cons]; simp [g]
        · left; rw [ge_Ed_cons]
          have e0 : b :: (M2 ++ q :: M1) ++ [a] = (b :: M2) ++ q :: (M1 ++ [a]) := by simp
          rw [e0, h]
          simp only [List.mem_cons, List.mem_append]
          exact .inr (.inl (.inl g))
        · exact .inr (.inr g)
      have sub1 : ∀ e ∈ ge_Ed (p :: q :: M1 ++ [a]), e ∈ ge_Ed (p :: b :: (M2 ++ q :: M1) ++ [a]) ∨ e = (p, q) ∨ e = (q, p) := by
        intro e he
        have h := ge_E_app (b :: M2) (M1 ++ [a]) q
        rcases ge_mem_mid he with g | g | g
        · exact .inr (.inl g)
        · left; rw [ge_Ed_cons]
          have e0 : b :: (M2 ++ q :: M1) ++ [a] = (b :: M2) ++ q :: (M1 ++ [a]) := by simp
          rw [e0, h]
          simp only [List.mem_cons, List.mem_append]
          exact .inr (.inl (.inr g))
        · left; rw [ge_Ed_cons]; simp [g]
      have low2 : ∀ v ∈ b :: M2 ++ [q], ge_lt p v := fun v hv => hlow v (by simp at hv ⊢; grind)
      have low1 : ∀ v ∈ q :: M1 ++ [a], ge_lt p v := fun v hv => hlow v (by simp at hv ⊢; grind)
      have g2 : ge_Sg (p :: b :: M2 ++ [q]) (ge_x p b q) := ⟨[], _, p, b, q, M2, rfl, by simp, low2, by rw [ge_x_rot q p b]⟩
      have g1 : ge_Sg (p :: q :: M1 ++ [a]) (ge_x a p q) := ⟨[], _, p, q, a, M1, rfl, by simp, low1, rfl⟩
      have i2 := ge_A n _ (by simp at hlen ⊢; omega) (ge_S_sc hm hS2) _ (ge_Sg_sc hm g2) y (ge_off_sub hy hny (ge_sc_mem_sub sub2))
      have i1 := ge_A n _ (by simp at hlen ⊢; omega) (ge_S_sc hm hS1) _ (ge_Sg_sc hm g1) y (ge_off_sub hy hny (ge_sc_mem_sub sub1))
      rw [(ge_sc_pos hm).1, (ge_sc_pos hm).2] at i1 i2
      have e1 : (p :: b :: (M2 ++ q :: M1) ++ [a]).map (ge_sc m) = ge_sc m p :: ge_sc m b :: (M2.map (ge_sc m) ++ ge_sc m q :: M1.map (ge_sc m)) ++ [ge_sc m a] := by simp
      have e2 : (p :: b :: M2 ++ [q]).map (ge_sc m) = ge_sc m p :: ge_sc m b :: M2.map (ge_sc m) ++ [ge_sc m q] := by simp
      have e3 : (p :: q :: M1 ++ [a]).map (ge_sc m) = ge_sc m p :: ge_sc m q :: M1.map (ge_sc m) ++ [ge_sc m a] := by simp
      rw [e1, ge_W_split, ← e2, ← e3]
      rw [← h4] at s1 s2
      rcases s1 with ⟨r1, r2⟩ | ⟨r1, r2⟩
      · have j1 := i1.1 r2
        have r3 : 0 < ge_x p b q := by rcases s2 with s | s <;> omega
        have j2 := i2.1 r3
        exact ⟨fun _ => by omega, fun _ => by omega⟩
      · have j1 := i1.2 r2
        have r3 : ge_x p b q < 0 := by rcases s2 with s | s <;> omega
        have j2 := i2.2 r3
        exact ⟨fun _ => by omega, fun _ => by omega⟩
/-! corners that can be cut off: ears -/
theorem ge_succ_uniq {P : List ge_P} (hP : ge_S P) {e f : ge_P × ge_P} (he : e ∈ ge_Ed P) (hf : f ∈ ge_Ed P) (h : e.1 = f.1) : e = f := by
  apply Classical.byContradiction
  intro hne
  rcases hP.2.2 e he f hf hne 1 0 1 0 ⟨by omega, by omega, by omega, by omega, by omega, by omega, by rw [h]; simp, by rw [h]; simp⟩ with g | g <;> omega
theorem ge_pred_uniq {P : List ge_P} (hP : ge_S P) {e f : ge_P × ge_P} (he : e ∈ ge_Ed P) (hf : f ∈ ge_Ed P) (h : e.2 = f.2) : e = f := by
  apply Classical.byContradiction
  intro hne
  rcases hP.2.2 e he f hf hne 0 1 0 1 ⟨by omega, by omega, by omega, by omega, by omega, by omega, by rw [h]; simp, by rw [h]; simp⟩ with g | g <;> omega
/-- read a polygon from an edge's end on -/
theorem ge_read {P : List ge_P} (hP : ge_S P) {a v b : ge_P} (h1 : (a, v) ∈ ge_Ed P) (h2 : (v, b) ∈ ge_Ed P) : ∃ (L1 L2 M : List ge_P), P = L1 ++ L2 ∧ L2 ++ L1 = v :: b :: M ++ [a] := by
  have hv : v ∈ P := (ge_Ed_mem h2).1
  obtain ⟨L1, L2, hL⟩ := List.append_of_mem hv
  obtain ⟨v', b', M, a', hf⟩ := ge_form3 (v :: L2 ++ L1) (by have := hP.2.1; rw [hL] at this; simp at this ⊢; omega)
  have hvv : v' = v := by simp at hf; exact hf.1.symm
  subst hvv
  have hmem : ∀ e ∈ ge_Ed (v' :: b' :: M ++ [a']), e ∈ ge_Ed P := by
    intro e he
    rw [← hf] at he
    rw [hL]
    exact (ge_Ed_rot L1 (v' :: L2) e).mpr he
  have e1 : (v', b) = (v', b') := ge_succ_uniq hP h2 (hmem _ (by rw [ge_Ed_cons]; simp)) rfl
  have e2 : (a, v') = (a', v') := ge_pred_uniq hP h1 (hmem _ (by rw [ge_Ed_cons]; simp)) rfl
  simp at e1 e2
  subst e1; subst e2
  exact ⟨L1, v' :: L2, M, hL, hf⟩
theorem ge_Sg_uniq {P : List ge_P} (hP : ge_S P) {D E : Int} (h1 : ge_Sg P D) (h2 : ge_Sg P E) : D = E := by
  obtain ⟨L1, L2, p, b, a, M, g1, g2, g3, g4⟩ := h1
  obtain ⟨L1', L2', p', b', a', M', g1', g2', g3', g4'⟩ := h2
  have m1 : ∀ e ∈ ge_Ed (p :: b :: M ++ [a]), e ∈ ge_Ed P := by
    intro e he; rw [← g2] at he; rw [g1]; exact (ge_Ed_rot L1 L2 e).mpr he
  have m2 : ∀ e ∈ ge_Ed (p' :: b' :: M' ++ [a']), e ∈ ge_Ed P := by
    intro e he; rw [← g2'] at he; rw [g1']; exact (ge_Ed_rot L1' L2' e).mpr he
  have v1 : ∀ v ∈ P, v = p ∨ ge_lt p v := by
    intro v hv
    have : v ∈ L2 ++ L1 := by rw [g1] at hv; simp at hv ⊢; grind
    rw [g2] at this
    rcases (show v = p ∨ v ∈ b :: M ++ [a] by simpa using this) with h | h
    · exact .inl h
    · exact .inr (g3 v h)
  have v2 : ∀ v ∈ P, v = p' ∨ ge_lt p' v := by
    intro v hv
    have : v ∈ L2' ++ L1' := by rw [g1'] at hv; simp at hv ⊢; grind
    rw [g2'] at this
    rcases (show v = p' ∨ v ∈ b' :: M' ++ [a'] by simpa using this) with h | h
    · exact .inl h
    · exact .inr (g3' v h)
  have hp : p = p' := by
    have a1 := v1 p' (ge_Ed_mem (m2 (p', b') (by rw [ge_Ed_cons]; simp))).1
    have a2 := v2 p (ge_Ed_mem (m1 (p, b) (by rw [ge_Ed_cons]; simp))).1
    rcases a1 with h | h
    · exact h.symm
    · rcases a2 with h' | h'
      · exact h'
      · unfold ge_lt at *; omega
  subst hp
  have e1 : (p, b) = (p, b') := ge_succ_uniq hP (m1 _ (by rw [ge_Ed_cons]; simp)) (m2 _ (by rw [ge_Ed_cons]; simp)) rfl
  have e2 : (a, p) = (a', p) := ge_pred_uniq hP (m1 _ (by rw [ge_Ed_cons]; simp)) (m2 _ (by rw [ge_Ed_cons]; simp)) rfl
  simp at e1 e2
  rw [g4, g4', e1, e2]
theorem ge_Sg_rot {L1 L2 : List ge_P} {D : Int} (hP : ge_S (L1 ++ L2)) (h : ge_Sg (L1 ++ L2) D) : ge_Sg (L2 ++ L1) D := by
  have hR := ge_S_rot hP
  obtain ⟨E, hE⟩ := ge_Sg_ex hR
  -- both read from the lowest corner
  obtain ⟨K1, K2, p, b, a, M, g1, g2, g3, g4⟩ := id h
  have hS := ge_S_rot (l1 := K1) (l2 := K2) (by rw [← g1]; exact hP)
  rw [g2] at hS
  have m1 : ∀ e ∈ ge_Ed (p :: b :: M ++ [a]), e ∈ ge_Ed (L2 ++ L1) := by
    intro e he; rw [← g2] at he
    exact (ge_Ed_rot L1 L2 e).mp (by rw [g1]; exact (ge_Ed_rot K1 K2 e).mpr he)
  obtain ⟨J1, J2, M', j1, j2⟩ := ge_read hR (m1 (a, p) (by rw [ge_Ed_cons]; simp)) (m1 (p, b) (by rw [ge_Ed_cons]; simp))
  refine ⟨J1, J2, p, b, a, M', j1, j2, ?_, g4⟩
  intro v hv
  have hne : v ≠ p := by
    have : (p :: b :: M' ++ [a]).Nodup := by rw [← j2]; have := hR.1; rw [j1] at this; exact List.perm_append_comm.nodup_iff.mp this
    rintro rfl; simp at this hv; grind
  have : v ∈ J2 ++ J1 := by rw [j2]; simp at hv ⊢; grind
  have : v ∈ L2 ++ L1 := by rw [j1]; simp at this ⊢; grind
  have : v ∈ L1 ++ L2 := by simp at this ⊢; grind
  rw [g1] at this
  have : v ∈ K2 ++ K1 := by simp at this ⊢; grind
  rw [g2] at this
  rcases (show v = p ∨ v ∈ b :: M ++ [a] by simpa using this) with h | h
  · exact absurd h hne
  · exact g3 v h
theorem ge_sense_bP {v b c a : ge_P} {M : List ge_P} (hP : ge_S (v :: b :: (c :: M) ++ [a])) (ht : 0 < ge_x a v b) (hc : ¬ ge_in a v b c) (h2 : 0 < ge_x v b c) (h3 : ge_x a b c ≠ 0) : 0 < ge_x a b c := by
  rcases (show 0 < ge_x a b c ∨ ge_x a b c < 0 by omega) with h | h
  · exact h
  · exfalso
    have hn := hP.1
    have f3 : 0 < ge_x b a c := by rw [ge_x_swap]; omega
    have f1 : ge_x a v c < 0 := by
      rcases Int.lt_or_le (ge_x a v c) 0 with g | g
      · exact g
      · exact absurd ⟨g, by omega, by omega⟩ hc
    have z1 := ge_x_00 a v
    have z2 := ge_x_00 v b
    have z3 := ge_x_00 b a
    have hw := ge_X1 (a := a) (p := v) (b := b) (c := c) (d := b) (k := 0) (l := 1) ht (by omega) (by omega) (by omega) (by omega) (by omega) (by omega) f1 (by omega) (by rw [z2.2.1]; have := Int.mul_pos ht h2; simp; omega)
    have hEd := ge_Ed_cons v b a (c :: M)
    have m1 : (a, v) ∈ ge_Ed (v :: b :: (c :: M) ++ [a]) := by rw [hEd]; simp
    have m2 : (b, c) ∈ ge_Ed (v :: b :: (c :: M) ++ [a]) := by rw [hEd]; simp [ge_E]
    have hne : (a, v) ≠ (b, c) := by intro h; simp at h hn; grind
    have hp := Int.mul_pos ht f3
    rcases ge_swap_in hP m1 m2 hne (c := c) (d := b) (.inr ⟨rfl, rfl⟩) hw with ⟨-, g⟩ | ⟨g, -⟩
    · simp at hn; grind
    · rw [z3.1] at g; simp at g; omega
theorem ge_sense_aP {v b z a : ge_P} {M : List ge_P} (hP : ge_S (v :: b :: (M ++ [z]) ++ [a])) (ht : 0 < ge_x a v b) (hz : ¬ ge_in a v b z) (h2 : 0 < ge_x z a v) (h3 : ge_x z a b ≠ 0) : 0 < ge_x z a b := by
  rcases (show 0 < ge_x z a b ∨ ge_x z a b < 0 by omega) with h | h
  · exact h
  · exfalso
    have hn := hP.1
    have r1 : ge_x a v z = ge_x z a v := (ge_x_rot z a v).symm
    have r2 : ge_x z a b = ge_x a b z := ge_x_rot z a b
    have f3 : 0 < ge_x b a z := by rw [ge_x_swap]; omega
    have f2 : ge_x v b z < 0 := by
      rcases Int.lt_or_le (ge_x v b z) 0 with g | g
      · exact g
      · exact absurd ⟨by omega, g, by omega⟩ hz
    have z1 := ge_x_00 a v
    have z2 := ge_x_00 v b
    have z3 := ge_x_00 b a
    have d2 : ge_x v b a = ge_x a v b := (ge_x_rot a v b).symm
    have hw := ge_X2 (a := a) (p := v) (b := b) (c := z) (d := a) (k := 0) (l := 1) ht (by omega) (by omega) (by omega) (by omega) (by omega) (by omega) f2 (by omega) (by rw [z1.1, d2, r1]; have := Int.mul_pos ht h2; simp; omega)
    have hEd := ge_Ed_cons v b a (M ++ [z])
    have m1 : (v, b) ∈ ge_Ed (v :: b :: (M ++ [z]) ++ [a]) := by rw [hEd]; simp
    have m2 : (z, a) ∈ ge_Ed (v :: b :: (M ++ [z]) ++ [a]) := by
      have := ge_E_app (b :: M) [a] z
      have e0 : b :: (M ++ [z]) ++ [a] = (b :: M) ++ z :: [a] := by simp
      rw [hEd, e0, this]; simp [ge_E]
    have hne : (v, b) ≠ (z, a) := by intro h; simp at h hn; grind
    have hp := Int.mul_pos ht f3
    rcases ge_swap_in hP m1 m2 hne (c := z) (d := a) (.inl ⟨rfl, rfl⟩) (ge_wt_swap hw) with ⟨g, -⟩ | ⟨-, g⟩
    · rw [z3.2.1, d2] at g; simp at g; omega
    · simp at hn; grind
theorem ge_sense_b {v b c a : ge_P} {M : List ge_P} (hP : ge_S (v :: b :: (c :: M) ++ [a])) (hc : ¬ ge_inS a v b c) (h2 : ge_ss (ge_x a v b) (ge_x v b c)) (h3 : ge_x a b c ≠ 0) : ge_ss (ge_x a v b) (ge_x a b c) := by
  rcases h2 with ⟨h1, h2⟩ | ⟨h1, h2⟩
  · exact .inl ⟨h1, ge_sense_bP hP h1 (fun h => hc (.inl ⟨h1, h⟩)) h2 h3⟩
  · right
    refine ⟨h1, ?_⟩
    have hP' := ge_S_m hP
    have e0 : (v :: b :: (c :: M) ++ [a]).map ge_m = ge_m v :: ge_m b :: (ge_m c :: M.map ge_m) ++ [ge_m a] := by simp
    rw [e0] at hP'
    have := ge_sense_bP hP' (by rw [ge_x_m]; omega) (fun h => hc (.inr ⟨h1, ge_in_m.mp h⟩)) (by rw [ge_x_m]; omega) (by rw [ge_x_m]; omega)
    rw [ge_x_m] at this
    omega
theorem ge_sense_a {v b z a : ge_P} {M : List ge_P} (hP : ge_S (v :: b :: (M ++ [z]) ++ [a])) (hz : ¬ ge_inS a v b z) (h2 : ge_ss (ge_x a v b) (ge_x z a v)) (h3 : ge_x z a b ≠ 0) : ge_ss (ge_x a v b) (ge_x z a b) := by
  rcases h2 with ⟨h1, h2⟩ | ⟨h1, h2⟩
  · exact .inl ⟨h1, ge_sense_aP hP h1 (fun h => hz (.inl ⟨h1, h⟩)) h2 h3⟩
  · right
    refine ⟨h1, ?_⟩
    have hP' := ge_S_m hP
    have e0 : (v :: b :: (M ++ [z]) ++ [a]).map ge_m = ge_m v :: ge_m b :: (M.map ge_m ++ [ge_m z]) ++ [ge_m a] := by simp
    rw [e0] at hP'
    have := ge_sense_aP hP' (by rw [ge_x_m]; omega) (fun h => hz (.inr ⟨h1, ge_in_m.mp h⟩)) (by rw [ge_x_m]; omega) (by rw [ge_x_m]; omega)
    rw [ge_x_m] at this
    omega
theorem ge_ss_symm {D E : Int} (h : ge_ss D E) : ge_ss E D := by unfold ge_ss at *; omega
theorem ge_ss_trans {D E F : Int} (h : ge_ss D E) (g : ge_ss E F) : ge_ss D F := by unfold ge_ss at *; omega
/-- cutting an ear off keeps the sense -/
theorem ge_sense {v b a : ge_P} {M : List ge_P} (hP : ge_S (v :: b :: M ++ [a])) (hM : M ≠ []) {D : Int} (hD : ge_Sg (v :: b :: M ++ [a]) D) (ht : ge_ss D (ge_x a v b)) (hem : ∀ u ∈ M, ¬ ge_inS a v b u) {D' : Int} (hD' : ge_Sg (b :: M ++ [a]) D') : ge_ss D D' := by
  have htne : ge_x a v b ≠ 0 := by unfold ge_ss at ht; omega
  have hS' := ge_S_cut hP hM htne hem
  have hn := hP.1
  obtain ⟨L1, L2, p, b0, a0, M0, g1, g2, g3, g4⟩ := id hD
  have hR := ge_S_rot (l1 := L1) (l2 := L2) (by rw [← g1]; exact hP)
  rw [g2] at hR
  have m1 : ∀ e ∈ ge_Ed (p :: b0 :: M0 ++ [a0]), e ∈ ge_Ed (v :: b :: M ++ [a]) := by
    intro e he; rw [← g2] at he; rw [g1]; exact (ge_Ed_rot L1 L2 e).mpr he
  have e1 := m1 (p, b0) (by rw [ge_Ed_cons]; simp)
  have e2 := m1 (a0, p) (by rw [ge_Ed_cons]; simp)
  have low : ∀ w ∈ v :: b :: M ++ [a], w ≠ p → ge_lt p w := by
    intro w hw hne
    have : w ∈ L2 ++ L1 := by rw [g1] at hw; simp at hw ⊢; grind
    rw [g2] at this
    rcases (show w = p ∨ w ∈ b0 :: M0 ++ [a0] by simpa using this) with h | h
    · exact absurd h hne
    · exact g3 w h
  have hEd := ge_Ed_cons v b a M
  have hpP := (ge_Ed_mem e1).1
  have hcase : p = v ∨ p = b ∨ p = a ∨ p ∈ M := by simp at hpP; grind
  by_cases hpv : p = v
  · subst hpv
    have q1 : (p, b0) = (p, b) := ge_succ_uniq hP e1 (by rw [hEd]; simp) rfl
    have q2 : (a0, p) = (a, p) := ge_pred_uniq hP e2 (by rw [hEd]; simp) rfl
    simp at q1 q2
    subst q1; subst q2
    have hl : ∀ w ∈ b0 :: M ++ [a0], ge_lt p w := by
      intro w hw
      have hne : w ≠ p := by rintro rfl; simp at hw hn; grind
      exact low w (by simp at hw ⊢; grind) hne
    have := ge_sense_low hP hM hl hem hD' (fun n hn => ge_A _ _ (Nat.le_refl _) (ge_S_sc hn hS') _ (ge_Sg_sc hn hD'))
    exact ge_ss_trans ht this
  by_cases hpb : p = b
  · subst hpb
    cases M with
    | nil => exact absurd rfl hM
    | cons c M =>
      have q1 : (p, b0) = (p, c) := ge_succ_uniq hP e1 (by rw [hEd]; simp [ge_E]) rfl
      have q2 : (a0, p) = (v, p) := ge_pred_uniq hP e2 (by rw [hEd]; simp) rfl
      simp at q1 q2
      subst q1; subst q2
      have hl : ∀ w ∈ b0 :: M ++ [a], ge_lt p w := by
        intro w hw
        have hne : w ≠ p := by rintro rfl; simp at hw hn; grind
        exact low w (by simp at hw ⊢; grind) hne
      have hSg : ge_Sg (p :: (b0 :: M) ++ [a]) (ge_x a p b0) := ⟨[], _, p, b0, a, M, rfl, by simp, hl, rfl⟩
      have hE := ge_Sg_uniq hS' hD' hSg
      have hne := ge_Sg_ne hS' hSg
      have := ge_sense_b hP (hem b0 (by simp)) (by rw [← g4]; exact ge_ss_symm ht) hne
      rw [hE]
      exact ge_ss_trans ht this
  by_cases hpa : p = a
  · subst hpa
    rcases List.eq_nil_or_concat M with h | ⟨M', z, h⟩
    · exact absurd h hM
    · rw [List.concat_eq_append] at h
      subst h
      have q1 : (p, b0) = (p, v) := ge_succ_uniq hP e1 (by rw [hEd]; simp) rfl
      have hz : (z, p) ∈ ge_Ed (v :: b :: (M' ++ [z]) ++ [p]) := by
        have := ge_E_app (b :: M') [p] z
        have e0 : b :: (M' ++ [z]) ++ [p] = (b :: M') ++ z :: [p] := by simp
        rw [hEd, e0, this]; simp [ge_E]
      have q2 : (a0, p) = (z, p) := ge_pred_uniq hP e2 hz rfl
      simp at q1 q2
      subst q1; subst q2
      have hl : ∀ w ∈ b :: M' ++ [a0], ge_lt p w := by
        intro w hw
        have hne : w ≠ p := by rintro rfl; simp at hw hn; grind
        exact low w (by simp at hw ⊢; grind) hne
      have hSg : ge_Sg (b :: (M' ++ [a0]) ++ [p]) (ge_x a0 p b) := ⟨b :: (M' ++ [a0]), [p], p, b, a0, M', rfl, by simp, hl, rfl⟩
      have hE := ge_Sg_uniq hS' hD' hSg
      have hne := ge_Sg_ne hS' hSg
      have := ge_sense_a hP (hem a0 (by simp)) (by rw [← g4]; exact ge_ss_symm ht) hne
      rw [hE]
      exact ge_ss_trans ht this
  · have f1 : (p, b0) ∈ ge_Ed (b :: M ++ [a]) := by
      rw [ge_Ed_line]
      rcases ge_mem_mid e1 with h | h | h
      · simp at h; exact absurd h.1 hpv
      · exact List.mem_append_left _ h
      · simp at h; exact absurd h.1 hpa
    have f2 : (a0, p) ∈ ge_Ed (b :: M ++ [a]) := by
      rw [ge_Ed_line]
      rcases ge_mem_mid e2 with h | h | h
      · simp at h; exact absurd h.2 hpb
      · exact List.mem_append_left _ h
      · simp at h; exact absurd h.2 hpv
    obtain ⟨J1, J2, M', j1, j2⟩ := ge_read hS' f2 f1
    have hSg : ge_Sg (b :: M ++ [a]) D := by
      refine ⟨J1, J2, p, b0, a0, M', j1, j2, ?_, g4⟩
      intro w hw
      have hne : w ≠ p := by
        have : (p :: b0 :: M' ++ [a0]).Nodup := by rw [← j2]; have := hS'.1; rw [j1] at this; exact List.perm_append_comm.nodup_iff.mp this
        rintro rfl; simp at this hw; grind
      have : w ∈ J2 ++ J1 := by rw [j2]; simp at hw ⊢; grind
      have : w ∈ b :: M ++ [a] := by rw [j1]; simp at this ⊢; grind
      exact low w (by simp at this ⊢; grind) hne
    rw [ge_Sg_uniq hS' hD' hSg]
    have := ge_Sg_ne hP hD
    unfold ge_ss; omega
/-- freeness, whichever way it turns -/
theorem ge_freeS {p b a : ge_P} {M : List ge_P} (hP : ge_S (p :: b :: M ++ [a])) (hM : M ≠ []) (hem : ∀ v ∈ M, ¬ ge_inS a p b v) {e : ge_P × ge_P} (he : e ∈ ge_E (b :: M ++ [a])) {k l : Int} (hk : 0 ≤ k) (hl : 0 ≤ l) (hkl : 0 < k + l)
    (h : (0 < ge_x a p b ∧ 0 ≤ k * ge_x a p e.1 + l * ge_x a p e.2 ∧ 0 ≤ k * ge_x p b e.1 + l * ge_x p b e.2 ∧ 0 ≤ k * ge_x b a e.1 + l * ge_x b a e.2) ∨ (ge_x a p b < 0 ∧ k * ge_x a p e.1 + l * ge_x a p e.2 ≤ 0 ∧ k * ge_x p b e.1 + l * ge_x p b e.2 ≤ 0 ∧ k * ge_x b a e.1 + l * ge_x b a e.2 ≤ 0)) :
    k * ge_x b a e.1 + l * ge_x b a e.2 = 0 ∧ ((k * ge_x a p e.1 + l * ge_x a p e.2 = 0 ∨ k * ge_x p b e.1 + l * ge_x p b e.2 = 0)) := by
  rcases h with ⟨hD, h1, h2, h3⟩ | ⟨hD, h1, h2, h3⟩
  · exact ge_free hP hM hD (fun v hv hi => hem v hv (.inl ⟨hD, hi⟩)) he hk hl hkl h1 h2 h3
  · have hP' := ge_S_m hP
    have e0 : (p :: b :: M ++ [a]).map ge_m = ge_m p :: ge_m b :: M.map ge_m ++ [ge_m a] := by simp
    rw [e0] at hP'
    have e1 : ge_m b :: M.map ge_m ++ [ge_m a] = (b :: M ++ [a]).map ge_m := by simp
    have neg : ∀ A B : Int, k * -A + l * -B = - (k * A + l * B) := fun A B => by grind
    have := ge_free (e := (ge_m e.1, ge_m e.2)) hP' (by simpa using hM) (by rw [ge_x_m]; omega) (fun v hv hi => by
      obtain ⟨v0, hv0, rfl⟩ := List.mem_map.mp hv
      exact hem v0 hv0 (.inr ⟨hD, ge_in_m.mp hi⟩)) (by rw [e1, ge_E_map]; exact List.mem_map.mpr ⟨e, he, rfl⟩) hk hl hkl (by dsimp only; rw [ge_x_m, ge_x_m, neg]; omega) (by dsimp only; rw [ge_x_m, ge_x_m, neg]; omega) (by dsimp only; rw [ge_x_m, ge_x_m, neg]; omega)
    dsimp only at this
    rw [ge_x_m, ge_x_m, ge_x_m, ge_x_m, ge_x_m, ge_x_m, neg, neg, neg] at this
    omega
/-- strictly within -/
def ge_inX (a p b x : ge_P) : Prop := (0 < ge_x a p b ∧ 0 < ge_x a p x ∧ 0 < ge_x p b x ∧ 0 < ge_x b a x) ∨ (ge_x a p b < 0 ∧ ge_x a p x < 0 ∧ ge_x p b x < 0 ∧ ge_x b a x < 0)
theorem ge_TW_in {x a p b : ge_P} (h : ge_inX a p b x) : (0 < ge_x a p b → ge_TW x a p b = -1) ∧ (ge_x a p b < 0 → ge_TW x a p b = 1) := by
  rcases h with ⟨h0, h1, h2, h3⟩ | ⟨h0, h1, h2, h3⟩
  · exact ⟨fun _ => (ge_tri h0).2.1 h2 h3 h1, fun _ => by omega⟩
  · refine ⟨fun _ => by omega, fun _ => ?_⟩
    have e : ge_x b p a = - ge_x a p b := by unfold ge_x; grind
    have s1 := ge_x_swap a p x
    have s2 := ge_x_swap p b x
    have s3 := ge_x_swap b a x
    have := (ge_tri (x := x) (a := b) (b := p) (c := a) (by omega)).2.1 (by omega) (by omega) (by omega)
    rw [ge_TW_swap] at this
    omega
theorem ge_inX_W {v b a : ge_P} {M : List ge_P} (hP : ge_S (v :: b :: M ++ [a])) {D : Int} (hD : ge_Sg (v :: b :: M ++ [a]) D) (ht : ge_ss D (ge_x a v b)) (hem : ∀ u ∈ M, ¬ ge_inS a v b u) {w : ge_P} (hw : ge_off w (v :: b :: M ++ [a])) (hi : ge_inX a v b w) : ge_W w (v :: b :: M ++ [a]) ≠ 0 := by
  rw [ge_W_cut]
  have hTW := ge_TW_in hi
  by_cases hM : M = []
  · subst hM
    have e2 : ge_W w (b :: [] ++ [a]) = 0 := by
      have := ge_w_swap w a b
      simp [ge_W, ge_cl, ge_C]; omega
    rw [e2]
    rcases ht with ⟨-, g⟩ | ⟨-, g⟩
    · have := hTW.1 g; omega
    · have := hTW.2 g; omega
  · have htne : ge_x a v b ≠ 0 := by unfold ge_ss at ht; omega
    have hS' := ge_S_cut hP hM htne hem
    obtain ⟨D', hD'⟩ := ge_Sg_ex hS'
    have hss := ge_sense hP hM hD ht hem hD'
    have hoff : ge_off w (b :: M ++ [a]) := by
      refine ge_off_sub (u := a) (w := b) hw ?_ ?_
      · intro hm
        obtain ⟨i, j, k, l, hwt⟩ := hm
        have hpos : 0 < k + l := by obtain ⟨-, -, -, -, h5, h6, -⟩ := hwt; omega
        have a1 := ge_aff hwt b a
        have z := ge_x_00 b a
        rw [z.1, z.2.1] at a1
        have b1 : (k + l) * ge_x b a w = 0 := by rw [Int.add_mul]; simpa using a1
        unfold ge_inX at hi
        rcases Int.mul_eq_zero.mp b1 with g | g <;> omega
      · intro e he
        rw [ge_Ed_line, List.mem_append, List.mem_singleton] at he
        rcases he with g | g
        · exact .inl (ge_S_mid hP g)
        · exact .inr (.inl g)
    have hA := ge_A _ _ (Nat.le_refl _) hS' _ hD' w hoff
    rcases ht with ⟨g1, g⟩ | ⟨g1, g⟩
    · have := hTW.1 g
      have := hA.1 (by unfold ge_ss at hss; omega)
      omega
    · have := hTW.2 g
      have := hA.2 (by unfold ge_ss at hss; omega)
      omega
end
section
theorem ge_inS_sc {n : Int} (hn : 0 < n) {a p b x : ge_P} : ge_inS (ge_sc n a) (ge_sc n p) (ge_sc n b) (ge_sc n x) ↔ ge_inS a p b x := by
  have q := fun A => ge_sc_pos (a := A) hn
  have q0 : ∀ A : Int, 0 ≤ n * n * A ↔ 0 ≤ A := fun A => by
    have := (q A).2
    omega
  unfold ge_inS ge_in
  rw [ge_x_sc, ge_x_sc, ge_x_sc, ge_x_sc, ge_x_sc, ge_x_sc, ge_x_sc, (q _).1, (q _).2, q0, q0, q0, q0, q0, q0]
/-- on a corner's edge, or strictly on its side -/
theorem ge_in_edge {v b a : ge_P} {M : List ge_P} {w : ge_P} (hw : ge_off w (v :: b :: M ++ [a])) (hi : ge_inS a v b w) : (0 < ge_x a v b ∧ 0 < ge_x a v w ∧ 0 < ge_x v b w ∧ 0 ≤ ge_x b a w) ∨ (ge_x a v b < 0 ∧ ge_x a v w < 0 ∧ ge_x v b w < 0 ∧ ge_x b a w ≤ 0) := by
  obtain ⟨s1, s2, s3⟩ := ge_bary a v b w
  have hEd := ge_Ed_cons v b a M
  have m1 := hw (a, v) (by rw [hEd]; simp)
  have m2 := hw (v, b) (by rw [hEd]; simp)
  dsimp only at m1 m2
  rcases hi with ⟨h0, h1, h2, h3⟩ | ⟨h0, h1, h2, h3⟩
  · left
    refine ⟨h0, ?_, ?_, h3⟩
    · rcases (show 0 < ge_x a v w ∨ ge_x a v w = 0 by omega) with g | g
      · exact g
      · exact absurd ⟨ge_x v b w, ge_x b a w, ge_x a v b, 0, by omega, by omega, by omega, by omega, by omega, by omega, by grind, by grind⟩ m1
    · rcases (show 0 < ge_x v b w ∨ ge_x v b w = 0 by omega) with g | g
      · exact g
      · exact absurd ⟨ge_x b a w, ge_x a v w, ge_x a v b, 0, by omega, by omega, by omega, by omega, by omega, by omega, by grind, by grind⟩ m2
  · right
    have r1 := ge_x_swap v b w
    have r2 := ge_x_swap a v w
    have r3 := ge_x_swap b a w
    refine ⟨h0, ?_, ?_, by omega⟩
    · rcases (show ge_x a v w < 0 ∨ ge_x a v w = 0 by omega) with g | g
      · exact g
      · exact absurd ⟨- ge_x v b w, - ge_x b a w, - ge_x a v b, 0, by omega, by omega, by omega, by omega, by omega, by omega, by grind, by grind⟩ m1
    · rcases (show ge_x v b w < 0 ∨ ge_x v b w = 0 by omega) with g | g
      · exact g
      · exact absurd ⟨- ge_x b a w, - ge_x a v w, - ge_x a v b, 0, by omega, by omega, by omega, by omega, by omega, by omega, by grind, by grind⟩ m2
/-- what lies in an ear's triangle, its far side too, is within -/
theorem ge_in_W {v b a : ge_P} {M : List ge_P} (hP : ge_S (v :: b :: M ++ [a])) {D : Int} (hD : ge_Sg (v :: b :: M ++ [a]) D) (ht : ge_ss D (ge_x a v b)) (hem : ∀ u ∈ M, ¬ ge_inS a v b u) {w : ge_P} (hw : ge_off w (v :: b :: M ++ [a])) (hi : ge_inS a v b w) : ge_W w (v :: b :: M ++ [a]) ≠ 0 := by
  have hc := ge_in_edge hw hi
  by_cases h3 : ge_x b a w = 0
  · obtain ⟨s1, s2, s3⟩ := ge_bary a v b w
    have hEd := ge_Ed_cons v b a M
    by_cases hM : M = []
    · exfalso
      subst hM
      have m3 := hw (b, a) (by rw [hEd]; simp [ge_E])
      dsimp only at m3
      rcases hc with ⟨g0, g1, g2, -⟩ | ⟨g0, g1, g2, -⟩
      · exact m3 ⟨ge_x a v w, ge_x v b w, ge_x a v b, 0, by omega, by omega, by omega, by omega, by omega, by omega, by grind, by grind⟩
      · exact m3 ⟨- ge_x a v w, - ge_x v b w, - ge_x a v b, 0, by omega, by omega, by omega, by omega, by omega, by omega, by grind, by grind⟩
    · -- half the way to v
      let y : ge_P := (w.1 + v.1, w.2 + v.2)
      have aff : ∀ u z : ge_P, ge_x (ge_sc 2 u) (ge_sc 2 z) y = 2 * (ge_x u z w + ge_x u z v) := by
        intro u z; show ge_x (ge_sc 2 u) (ge_sc 2 z) (w.1 + v.1, w.2 + v.2) = _; unfold ge_x ge_sc; grind
      have z1 := ge_x_00 a v
      have z2 := ge_x_00 v b
      have d3 : ge_x b a v = ge_x a v b := by rw [ge_x_rot, ge_x_rot]
      have seg : ∀ e ∈ ge_Ed (v :: b :: M ++ [a]), ¬ ge_meet (ge_sc 2 e.1) (ge_sc 2 e.2) (ge_sc 2 w) y := by
        intro e he hm
        obtain ⟨i, j, k, l, hi, hj, hk, hl, h5, h6, h7, h8⟩ := hm
        have ey1 : y.1 = w.1 + v.1 := rfl
        have ey2 : y.2 = w.2 + v.2 := rfl
        rw [ey1] at h7
        rw [ey2] at h8
        simp only [ge_sc] at h7 h8
        have q : ∀ u z : ge_P, 2 * (i * ge_x u z e.1 + j * ge_x u z e.2) = (2 * k + l) * ge_x u z w + l * ge_x u z v := by
          intro u z
          have e0 : i = k + l - j := by omega
          subst e0
          unfold ge_x
          clear aff s1 s2 s3 hc d3 z1 z2
          grind
        have q1 := q a v
        have q2 := q v b
        have q3 := q b a
        rw [z1.2.1] at q1
        rw [z2.1] at q2
        rw [h3, d3] at q3
        simp only [Int.mul_zero, Int.add_zero, Int.zero_add] at q1 q2 q3
        have hkl : 0 < 2 * k + l := by omega
        rcases ge_mem_mid he with g | g | g
        · subst g
          dsimp only at q2
          rw [z2.1, z2.2.1] at q2
          simp only [Int.mul_zero, Int.add_zero] at q2
          rcases Int.mul_eq_zero.mp q2.symm with g | g
          · omega
          · rcases hc with hc | hc <;> omega
        · have f : i * ge_x b a e.1 + j * ge_x b a e.2 = 0 := by
            refine (ge_freeS hP hM hem g hi hj h5 ?_).1
            rcases hc with ⟨g0, g1, g2, -⟩ | ⟨g0, g1, g2, -⟩
            · left
              have n1 := Int.mul_pos hkl g1
              have n2 := Int.mul_pos hkl g2
              have n3 := Int.mul_nonneg hl (show 0 ≤ ge_x a v b by omega)
              exact ⟨g0, by omega, by omega, by omega⟩
            · right
              have n1 := Int.mul_pos hkl (show 0 < - ge_x a v w by omega)
              have n2 := Int.mul_pos hkl (show 0 < - ge_x v b w by omega)
              have n3 := Int.mul_nonneg hl (show 0 ≤ - ge_x a v b by omega)
              rw [Int.mul_neg] at n1 n2 n3
              exact ⟨g0, by omega, by omega, by omega⟩
          have l0 : l = 0 := by
            have : l * ge_x a v b = 0 := by omega
            rcases Int.mul_eq_zero.mp this with g | g
            · exact g
            · rcases hc with hc | hc <;> omega
          subst l0
          exact hw e he ⟨i, j, k, 0, hi, hj, hk, by omega, h5, by omega, by grind, by grind⟩
        · subst g
          dsimp only at q1
          rw [z1.1, z1.2.1] at q1
          simp only [Int.mul_zero, Int.add_zero] at q1
          rcases Int.mul_eq_zero.mp q1.symm with g | g
          · omega
          · rcases hc with hc | hc <;> omega
      have h2 : (0 : Int) < 2 := by omega
      have hW : ge_W w (v :: b :: M ++ [a]) = ge_W y ((v :: b :: M ++ [a]).map (ge_sc 2)) := by
        rw [← ge_W_sc h2 w]
        apply ge_J1
        intro e he
        rw [ge_Ed_map] at he
        obtain ⟨e0, he0, rfl⟩ := List.mem_map.mp he
        exact seg e0 he0
      have hoff : ge_off y ((v :: b :: M ++ [a]).map (ge_sc 2)) := by
        intro e he hm
        rw [ge_Ed_map] at he
        obtain ⟨e0, he0, rfl⟩ := List.mem_map.mp he
        obtain ⟨i, j, k, l, hi, hj, hk, hl, h5, h6, h7, h8⟩ := hm
        exact seg e0 he0 ⟨i, j, 0, k + l, hi, hj, by omega, by omega, h5, by omega, by dsimp only at h7 ⊢; rw [h7]; grind, by dsimp only at h8 ⊢; rw [h8]; grind⟩
      rw [hW]
      have e1 : (v :: b :: M ++ [a]).map (ge_sc 2) = ge_sc 2 v :: ge_sc 2 b :: M.map (ge_sc 2) ++ [ge_sc 2 a] := by simp
      have hP2 := ge_S_sc h2 hP
      have hD2 := ge_Sg_sc h2 hD
      rw [e1] at hP2 hD2 hoff ⊢
      refine ge_inX_W hP2 hD2 ?_ ?_ hoff ?_
      · rw [ge_x_sc]; unfold ge_ss at ht ⊢; omega
      · intro u hu
        obtain ⟨u0, hu0, rfl⟩ := List.mem_map.mp hu
        rw [ge_inS_sc h2]
        exact hem u0 hu0
      · unfold ge_inX
        rw [aff, aff, aff, ge_x_sc, z1.2.1, z2.1, h3, d3]
        rcases hc with hc | hc
        · left; omega
        · right; omega
  · refine ge_inX_W hP hD ht hem hw ?_
    unfold ge_inX
    rcases hc with hc | hc
    · left; omega
    · right; omega
def ge_ear (P : List ge_P) (D : Int) (v : ge_P) : Prop := ∃ a b, (a, v) ∈ ge_Ed P ∧ (v, b) ∈ ge_Ed P ∧ ge_ss D (ge_x a v b) ∧ ∀ u ∈ P, u ≠ a → u ≠ v → u ≠ b → ¬ ge_inS a v b u
def ge_E2 (P : List ge_P) (D : Int) : Prop := ∀ c d, (c, d) ∈ ge_Ed P → ∃ u, ge_ear P D u ∧ u ≠ c ∧ u ≠ d
/-- the lowest of all is in no triangle of the others -/
theorem ge_low_out {p a v b : ge_P} (ha : ge_lt p a) (hv : ge_lt p v) (hb : ge_lt p b) : ¬ ge_inS a v b p := by
  obtain ⟨s1, s2, s3⟩ := ge_bary a v b p
  have nn : ∀ A B C : Int, 0 ≤ A → 0 ≤ B → 0 ≤ C → 0 < A + B + C → A * (a.2 - p.2) + B * (v.2 - p.2) + C * (b.2 - p.2) = 0 → A * (a.1 - p.1) + B * (v.1 - p.1) + C * (b.1 - p.1) = 0 → False := by
    intro A B C hA hB hC hs e2 e1
    have la : p.2 ≤ a.2 := by rcases ha with h | h <;> omega
    have lv : p.2 ≤ v.2 := by rcases hv with h | h <;> omega
    have lb : p.2 ≤ b.2 := by rcases hb with h | h <;> omega
    have q1 := Int.mul_nonneg hA (show 0 ≤ a.2 - p.2 by omega)
    have q2 := Int.mul_nonneg hB (show 0 ≤ v.2 - p.2 by omega)
    have q3 := Int.mul_nonneg hC (show 0 ≤ b.2 - p.2 by omega)
    have one : ∀ (K : Int) (z : ge_P), 0 ≤ K → ge_lt p z → K * (z.2 - p.2) = 0 → 0 ≤ K * (z.1 - p.1) ∧ (0 < K → 0 < K * (z.1 - p.1)) := by
      intro K z hK hz h0
      rcases (show K = 0 ∨ 0 < K by omega) with g | g
      · subst g; simp
      · rcases Int.mul_eq_zero.mp h0 with h | h
        · omega
        · have : 0 < z.1 - p.1 := by rcases hz with h' | h' <;> omega
          have := Int.mul_pos g this
          exact ⟨by omega, fun _ => this⟩
    have o1 := one A a hA ha (by omega)
    have o2 := one B v hB hv (by omega)
    have o3 := one C b hC hb (by omega)
    rcases (show 0 < A ∨ 0 < B ∨ 0 < C by omega) with g | g | g
    · have := o1.2 g; omega
    · have := o2.2 g; omega
    · have := o3.2 g; omega
  intro h
  rcases h with ⟨h0, h1, h2, h3⟩ | ⟨h0, h1, h2, h3⟩
  · exact nn (ge_x v b p) (ge_x b a p) (ge_x a v p) h2 h3 h1 (by omega) s2 s3
  · have r1 := ge_x_swap v b p
    have r2 := ge_x_swap a v p
    have r3 := ge_x_swap b a p
    refine nn (ge_x b v p) (ge_x a b p) (ge_x v a p) h1 h3 h2 (by omega) ?_ ?_
    · rw [r1, r2, r3]; grind
    · rw [r1, r2, r3]; grind
theorem ge_ear_rot {L1 L2 : List ge_P} {D : Int} {v : ge_P} (h : ge_ear (L2 ++ L1) D v) : ge_ear (L1 ++ L2) D v := by
  obtain ⟨a, b, h1, h2, h3, h4⟩ := h
  exact ⟨a, b, (ge_Ed_rot L1 L2 _).mpr h1, (ge_Ed_rot L1 L2 _).mpr h2, h3, fun u hu => h4 u (by simp at hu ⊢; grind)⟩
theorem ge_E2_rot {L1 L2 : List ge_P} {D : Int} (h : ge_E2 (L2 ++ L1) D) : ge_E2 (L1 ++ L2) D := by
  intro c d hcd
  obtain ⟨u, h1, h2⟩ := h c d ((ge_Ed_rot L1 L2 _).mp hcd)
  exact ⟨u, ge_ear_rot h1, h2⟩
theorem ge_E2_two {P : List ge_P} {D : Int} {v1 v2 : ge_P} (h1 : ge_ear P D v1) (h2 : ge_ear P D v2) (hne : v1 ≠ v2) (n1 : (v1, v2) ∉ ge_Ed P) (n2 : (v2, v1) ∉ ge_Ed P) : ge_E2 P D := by
  intro c d hcd
  by_cases g : v1 ≠ c ∧ v1 ≠ d
  · exact ⟨v1, h1, g⟩
  · refine ⟨v2, h2, ?_, ?_⟩
    · rintro rfl
      have : v1 = d := by by_cases q : v1 = v2; · exact absurd q hne
                          · grind
      subst this
      exact n2 hcd
    · rintro rfl
      have : v1 = c := by by_cases q : v1 = v2; · exact absurd q hne
                          · grind
      subst this
      exact n1 hcd
/-- corners of one part beside a chord are outside of the other part -/
theorem ge_chain0 {P1 : List ge_P} : ∀ (l : List ge_P) (b : ge_P), ge_W b P1 = 0 → (∀ e ∈ ge_E (b :: l), ∀ f ∈ ge_Ed P1, ¬ ge_meet f.1 f.2 e.1 e.2) → ∀ w ∈ b :: l, ge_W w P1 = 0
  | [], b, h0, _, w, hw => by simp at hw; subst hw; exact h0
  | c :: l, b, h0, hE, w, hw => by
    rcases List.mem_cons.mp hw with h | h
    · subst h; exact h0
    · have h1 : ge_W c P1 = 0 := by
        rw [← h0]
        symm
        apply ge_J1
        intro f hf
        exact hE (b, c) (by simp [ge_E]) f hf
      exact ge_chain0 l c h1 (fun e he => hE e (by simp [ge_E, he])) w h
/-- an ear of a part, away from the chord, is an ear of the whole -/
theorem ge_ear_part {P P1 : List ge_P} (hP1 : ge_S P1) {D D1 : Int} (hD1 : ge_Sg P1 D1) (hss : ge_ss D D1) {p q u : ge_P} (hEd : ∀ e ∈ ge_Ed P1, e.1 ≠ p ∨ e.2 ≠ q → e.1 ≠ q ∨ e.2 ≠ p → e ∈ ge_Ed P) (hu : ge_ear P1 D1 u) (hup : u ≠ p) (huq : u ≠ q)
    (hout : ∀ w ∈ P, w ∉ P1 → ge_off w P1 ∧ ge_W w P1 = 0) : ge_ear P D u := by
  obtain ⟨a, b, h1, h2, h3, h4⟩ := hu
  refine ⟨a, b, hEd _ h1 (.inr huq) (.inr hup), hEd _ h2 (.inl hup) (.inl huq), ge_ss_trans hss h3, ?_⟩
  intro w hw n1 n2 n3 hin
  by_cases hw1 : w ∈ P1
  · exact h4 w hw1 n1 n2 n3 hin
  · obtain ⟨o1, o2⟩ := hout w hw hw1
    obtain ⟨L1, L2, M, e1, e2⟩ := ge_read hP1 h1 h2
    subst e1
    have hR := ge_S_rot hP1
    have hDR := ge_Sg_rot hP1 hD1
    have hoR := ge_off_rot o1
    rw [e2] at hR hDR hoR
    have hWR : ge_W w (u :: b :: M ++ [a]) = 0 := by rw [← e2, ge_W_rot, o2]
    refine ge_in_W hR hDR h3 ?_ hoR hin hWR
    intro z hz
    have hn := hR.1
    have hz1 : z ∈ L2 ++ L1 := by rw [e2]; simp [hz]
    exact h4 z (by simp at hz1 ⊢; grind) (by rintro rfl; simp at hn; grind) (by rintro rfl; simp at hn; grind) (by rintro rfl; simp at hn; grind)
theorem ge_ears : ∀ (n : Nat) (P : List ge_P), P.length ≤ n → ge_S P → ∀ D, ge_Sg P D → ge_E2 P D
  | 0, P, hl, hP, _, _ => by have := hP.2.1; omega
  | n + 1, P, hl, hP, D, hD => by
    obtain ⟨L1, L2, p, b, a, M, h1, h2, hlow, h4⟩ := id hD
    subst h1
    have hR := ge_S_rot hP
    apply ge_E2_rot
    rw [h2] at hR ⊢
    have hlen : (p :: b :: M ++ [a]).length ≤ n + 1 := by rw [← h2]; simp at hl ⊢; omega
    have hDne := ge_turns hR hlow
    have hn := hR.1
    have hEd := ge_Ed_cons p b a M
    have hDD : ge_ss D (ge_x a p b) := by unfold ge_ss; omega
    by_cases hM : M = []
    · subst hM
      have ed : ge_Ed (p :: b :: [] ++ [a]) = [(p, b), (b, a), (a, p)] := by rw [hEd]; simp [ge_E]
      have hpb : p ≠ b := by rintro rfl; simp at hn
      have hpa : p ≠ a := by rintro rfl; simp at hn
      have hba : b ≠ a := by rintro rfl; simp at hn
      have r1 : ge_x p b a = ge_x a p b := (ge_x_rot a p b).symm
      have r2 : ge_x b a p = ge_x a p b := by rw [ge_x_rot, ge_x_rot]
      have eP : ge_ear (p :: b :: [] ++ [a]) D p := ⟨a, b, by rw [ed]; simp, by rw [ed]; simp, hDD, fun u hu => by simp at hu; grind⟩
      have eB : ge_ear (p :: b :: [] ++ [a]) D b := ⟨p, a, by rw [ed]; simp, by rw [ed]; simp, by rw [r1]; exact hDD, fun u hu => by simp at hu; grind⟩
      have eA : ge_ear (p :: b :: [] ++ [a]) D a := ⟨b, p, by rw [ed]; simp, by rw [ed]; simp, by rw [r2]; exact hDD, fun u hu => by simp at hu; grind⟩
      intro c d hcd
      rw [ed] at hcd
      simp only [List.mem_cons, List.not_mem_nil, or_false, Prod.mk.injEq] at hcd
      rcases hcd with ⟨rfl, rfl⟩ | ⟨rfl, rfl⟩ | ⟨rfl, rfl⟩
      · exact ⟨a, eA, hpa.symm, hba.symm⟩
      · exact ⟨p, eP, hpb, hpa⟩
      · exact ⟨b, eB, hba, hpb.symm⟩
    by_cases hem : ∀ v ∈ M, ¬ ge_inS a p b v
    · have hS' := ge_S_cut hR hM hDne hem
      obtain ⟨D', hD'⟩ := ge_Sg_ex hS'
      have hSgR : ge_Sg (p :: b :: M ++ [a]) D := ⟨[], _, p, b, a, M, rfl, by simp, hlow, h4⟩
      have hss := ge_sense hR hM hSgR hDD hem hD'
      have hI := ge_ears n _ (by simp at hlen ⊢; omega) hS' D' hD'
      obtain ⟨u, hu, hua, hub⟩ := hI a b (by rw [ge_Ed_line]; simp)
      have eP : ge_ear (p :: b :: M ++ [a]) D p := by
        refine ⟨a, b, by rw [hEd]; simp, by rw [hEd]; simp, hDD, fun w hw n1 n2 n3 => hem w ?_⟩
        simp at hw; grind
      obtain ⟨a', b', u1, u2, u3, u4⟩ := hu
      have mid1 : (a', u) ∈ ge_E (b :: M ++ [a]) := by
        rw [ge_Ed_line, List.mem_append, List.mem_singleton] at u1
        rcases u1 with h | h
        · exact h
        · simp at h; exact absurd h.2 hub
      have mid2 : (u, b') ∈ ge_E (b :: M ++ [a]) := by
        rw [ge_Ed_line, List.mem_append, List.mem_singleton] at u2
        rcases u2 with h | h
        · exact h
        · simp at h; exact absurd h.1 hua
      have eU : ge_ear (p :: b :: M ++ [a]) D u := by
        refine ⟨a', b', ge_S_mid hR mid1, ge_S_mid hR mid2, ge_ss_trans hss u3, fun w hw n1 n2 n3 => ?_⟩
        by_cases hwp : w = p
        · subst hwp
          exact ge_low_out (hlow _ (ge_E_mem mid1).1) (hlow _ (ge_E_mem mid1).2) (hlow _ (ge_E_mem mid2).2)
        · exact u4 w (by simp at hw ⊢; grind) n1 n2 n3
      have hup : p ≠ u := by
        have := (ge_E_mem mid2).1
        rintro rfl; simp at this hn; grind
      refine ge_E2_two eP eU hup ?_ ?_
      · intro h
        have := ge_succ_uniq hR h (f := (p, b)) (by rw [hEd]; simp) rfl
        simp at this; exact hub this
      · intro h
        have := ge_pred_uniq hR h (f := (a, p)) (by rw [hEd]; simp) rfl
        simp at this; exact hua this
    · have hv : ∃ v ∈ M, ge_inS a p b v := by
        simp only [Classical.not_forall, Classical.not_not] at hem
        obtain ⟨v, hv, h⟩ := hem
        exact ⟨v, hv, h⟩
      obtain ⟨q, hq, -, s1, s2, hc⟩ := ge_chordS hR hv
      obtain ⟨M2, M1, rfl⟩ := List.append_of_mem hq
      obtain ⟨hS2, hS1⟩ := ge_S_parts hR hc
      have low2 : ∀ v ∈ b :: M2 ++ [q], ge_lt p v := fun v hv => hlow v (by simp at hv ⊢; grind)
      have low1 : ∀ v ∈ q :: M1 ++ [a], ge_lt p v := fun v hv => hlow v (by simp at hv ⊢; grind)
      have g2 : ge_Sg (p :: b :: M2 ++ [q]) (ge_x p b q) := ⟨[], _, p, b, q, M2, rfl, by simp, low2, by rw [ge_x_rot q p b]⟩
      have g1 : ge_Sg (p :: q :: M1 ++ [a]) (ge_x a p q) := ⟨[], _, p, q, a, M1, rfl, by simp, low1, rfl⟩
      have i2 := ge_ears n _ (by simp at hlen ⊢; omega) hS2 _ g2
      have i1 := ge_ears n _ (by simp at hlen ⊢; omega) hS1 _ g1
      have hEM := ge_E_app (b :: M2) (M1 ++ [a]) q
      have e0 : b :: (M2 ++ q :: M1) ++ [a] = (b :: M2) ++ q :: (M1 ++ [a]) := by simp
      rw [e0, hEM] at hEd
      have in2 : ∀ e ∈ ge_E (b :: M2 ++ [q]), e ∈ ge_Ed (p :: b :: (M2 ++ q :: M1) ++ [a]) := by
        intro e he; rw [hEd]; simp only [List.mem_cons, List.mem_append]; exact .inr (.inl (.inl he))
      have in1 : ∀ e ∈ ge_E (q :: M1 ++ [a]), e ∈ ge_Ed (p :: b :: (M2 ++ q :: M1) ++ [a]) := by
        intro e he; rw [hEd]; simp only [List.mem_cons, List.mem_append]; exact .inr (.inl (.inr he))
      have hpb : (p, b) ∈ ge_Ed (p :: b :: (M2 ++ q :: M1) ++ [a]) := by rw [hEd]; simp
      have hap : (a, p) ∈ ge_Ed (p :: b :: (M2 ++ q :: M1) ++ [a]) := by rw [hEd]; simp
      have sub2 : ∀ e ∈ ge_Ed (p :: b :: M2 ++ [q]), e ∈ ge_Ed (p :: b :: (M2 ++ q :: M1) ++ [a]) ∨ e = (q, p) := by
        intro e he
        rcases ge_mem_mid he with g | g | g
        · subst g; exact .inl hpb
        · exact .inl (in2 e g)
        · exact .inr g
      have sub1 : ∀ e ∈ ge_Ed (p :: q :: M1 ++ [a]), e ∈ ge_Ed (p :: b :: (M2 ++ q :: M1) ++ [a]) ∨ e = (p, q) := by
        intro e he
        rcases ge_mem_mid he with g | g | g
        · exact .inr g
        · exact .inl (in1 e g)
        · subst g; exact .inl hap
      -- two edges of the whole with no end in common do not meet
      have apart : ∀ e ∈ ge_Ed (p :: b :: (M2 ++ q :: M1) ++ [a]), ∀ f ∈ ge_Ed (p :: b :: (M2 ++ q :: M1) ++ [a]), e.2 ≠ f.1 → e.1 ≠ f.2 → e ≠ f → ¬ ge_meet f.1 f.2 e.1 e.2 := by
        intro e he f hf n1 n2 n3 hm
        obtain ⟨i, j, k, l, hw⟩ := hm
        rcases hR.2.2 f hf e he (Ne.symm n3) i j k l hw with ⟨-, -, g⟩ | ⟨-, -, g⟩
        · exact n2 g.symm
        · exact n1 g.symm
      have apartC : ∀ e ∈ ge_Ed (p :: b :: (M2 ++ q :: M1) ++ [a]), e.1 ≠ p → e.2 ≠ p → e.1 ≠ q → e.2 ≠ q → ¬ ge_meet p q e.1 e.2 := by
        intro e he n1 n2 n3 n4 hm
        obtain ⟨i, j, k, l, hw⟩ := hm
        rcases hc e he i j k l hw with ⟨-, ⟨g, -⟩ | ⟨g, -⟩⟩ | ⟨-, ⟨g, -⟩ | ⟨g, -⟩⟩
        · exact n3 g.symm
        · exact n4 g.symm
        · exact n1 g.symm
        · exact n2 g.symm
      have offw : ∀ w ∈ p :: b :: (M2 ++ q :: M1) ++ [a], w ≠ p → w ≠ q → ∀ f : ge_P × ge_P, (f ∈ ge_Ed (p :: b :: (M2 ++ q :: M1) ++ [a]) → w ≠ f.1 → w ≠ f.2 → ¬ ge_meet f.1 f.2 w w) ∧ ¬ ge_meet p q w w := by
        intro w hw n1 n2 f
        constructor
        · intro hf m1 m2 hm
          obtain ⟨i, j, k, l, hwt⟩ := hm
          rcases ge_V hR hw hf (ge_wt_symm hwt) with ⟨g, -⟩ | ⟨g, -⟩
          · exact m1 g
          · exact m2 g
        · intro hm
          obtain ⟨w', hw'⟩ := ge_Ed_succ hw
          obtain ⟨i, j, k, l, hi, hj, hk, hl, h5, h6, h7, h8⟩ := hm
          have := hc _ hw' i j (k + l) 0 ⟨hi, hj, by omega, by omega, h5, by omega, by dsimp only; grind, by dsimp only; grind⟩
          rcases this with ⟨hi0, ⟨g, -⟩ | ⟨g, h0⟩⟩ | ⟨hj0, ⟨g, -⟩ | ⟨g, h0⟩⟩
          · exact n2 g.symm
          · omega
          · exact n1 g.symm
          · omega
      have hn' := hn
      -- the corners of the second part are outside of the first
      have out1 : ∀ w ∈ b :: M2, ge_off w (p :: q :: M1 ++ [a]) ∧ ge_W w (p :: q :: M1 ++ [a]) = 0 := by
        have nin : ∀ w ∈ b :: M2, w ∉ p :: q :: M1 ++ [a] := by
          intro w hw h; simp at hn hw h; grind
        intro w hw
        have hwn := nin w hw
        have hwP : w ∈ p :: b :: (M2 ++ q :: M1) ++ [a] := by simp at hw ⊢; grind
        have wp : w ≠ p := by rintro rfl; simp at hwn
        have wq : w ≠ q := by rintro rfl; simp at hwn
        constructor
        · intro f hf
          have hfm := ge_Ed_mem hf
          rcases sub1 f hf with g | g
          · exact (offw w hwP wp wq f).1 g (by rintro rfl; exact hwn hfm.1) (by rintro rfl; exact hwn hfm.2)
          · subst g; exact (offw w hwP wp wq (p, q)).2
        · refine ge_chain0 M2 b ?_ ?_ w hw
          · refine ge_KK low1 (hlow b (by simp)) ?_ ?_
            · have r : ge_x p b a = ge_x a p b := (ge_x_rot a p b).symm
              unfold ge_ss at s2; rw [r]; omega
            · intro e he
              have hem2 := ge_E_mem he
              refine apart (p, b) hpb e (in1 e he) ?_ ?_ ?_
              · intro h; exact nin b (by simp) (by rw [show b = e.1 from h]; exact List.mem_cons_of_mem _ hem2.1)
              · intro h
                have : p ∈ q :: M1 ++ [a] := by rw [show p = e.2 from h]; exact hem2.2
                simp at this hn; grind
              · intro h
                have : p ∈ q :: M1 ++ [a] := by rw [show p = e.1 from by rw [← h]]; exact hem2.1
                simp at this hn; grind
          · intro e he f hf
            have hem2 := ge_E_mem he
            have he2 : e ∈ ge_Ed (p :: b :: (M2 ++ q :: M1) ++ [a]) := by
              apply in2
              have := ge_E_app (b :: M2) [] q
              cases M2 with
              | nil => simp [ge_E] at he
              | cons m M2 =>
                rcases List.eq_nil_or_concat (m :: M2) with h | ⟨K, z, h⟩
                · simp at h
                · rw [List.concat_eq_append] at h
                  rw [h] at he ⊢
                  have e9 := ge_E_app (b :: K) [q] z
                  have e8 : b :: (K ++ [z]) ++ [q] = (b :: K) ++ z :: [q] := by simp
                  rw [e8, e9]
                  apply List.mem_append_left
                  simpa using he
            have n1 := nin e.1 hem2.1
            have n2 := nin e.2 hem2.2
            have hfm := ge_Ed_mem hf
            rcases sub1 f hf with g | g
            · refine apart e he2 f g ?_ ?_ ?_
              · intro h; rw [h] at n2; exact n2 hfm.1
              · intro h; rw [h] at n1; exact n1 hfm.2
              · intro h; rw [h] at n1; exact n1 hfm.1
            · subst g
              refine apartC e he2 ?_ ?_ ?_ ?_
              · intro h; rw [h] at n1; simp at n1
              · intro h; rw [h] at n2; simp at n2
              · intro h; rw [h] at n1; simp at n1
              · intro h; rw [h] at n2; simp at n2
      have out2 : ∀ w ∈ M1 ++ [a], ge_off w (p :: b :: M2 ++ [q]) ∧ ge_W w (p :: b :: M2 ++ [q]) = 0 := by
        have nin : ∀ w ∈ M1 ++ [a], w ∉ p :: b :: M2 ++ [q] := by
          intro w hw h; simp at hn hw h; grind
        intro w hw
        have hwn := nin w hw
        have hwP : w ∈ p :: b :: (M2 ++ q :: M1) ++ [a] := by simp at hw ⊢; grind
        have wp : w ≠ p := by rintro rfl; simp at hwn
        have wq : w ≠ q := by rintro rfl; simp at hwn
        constructor
        · intro f hf
          have hfm := ge_Ed_mem hf
          rcases sub2 f hf with g | g
          · exact (offw w hwP wp wq f).1 g (by rintro rfl; exact hwn hfm.1) (by rintro rfl; exact hwn hfm.2)
          · subst g; exact fun hm => (offw w hwP wp wq (p, q)).2 (ge_meet_swap hm)
        · -- from a back
          have hrev : (M1 ++ [a]).reverse = a :: M1.reverse := by simp
          refine ge_chain0 M1.reverse a ?_ ?_ w (by rw [← hrev]; exact List.mem_reverse.mpr hw)
          · refine ge_KK low2 (hlow a (by simp)) ?_ ?_
            · have r1 : ge_x p a b = - ge_x a p b := by rw [ge_x_swap]
              have r2 : ge_x p a q = - ge_x a p q := by rw [ge_x_swap]
              unfold ge_ss at s1; rw [r1, r2]; omega
            · intro e he hm
              have hem2 := ge_E_mem he
              refine apart (a, p) hap e (in2 e he) ?_ ?_ ?_ (ge_meet_swap2 hm)
              · intro h
                have : p ∈ b :: M2 ++ [q] := by rw [show p = e.1 from h]; exact hem2.1
                simp at this hn; grind
              · intro h; exact nin a (by simp) (by rw [show a = e.2 from h]; exact List.mem_cons_of_mem _ hem2.2)
              · intro h
                have : p ∈ b :: M2 ++ [q] := by rw [show p = e.2 from by rw [← h]]; exact hem2.2
                simp at this hn; grind
          · intro e he f hf hmt
            have hem2 := ge_E_mem he
            have n1 := nin e.1 (by have := hem2.1; rw [← hrev] at this; exact List.mem_reverse.mp this)
            have n2 := nin e.2 (by have := hem2.2; rw [← hrev] at this; exact List.mem_reverse.mp this)
            have he2 : (e.2, e.1) ∈ ge_Ed (p :: b :: (M2 ++ q :: M1) ++ [a]) := by
              apply in1
              have hr : ∀ l : List ge_P, ∀ x y, (x, y) ∈ ge_E l → (y, x) ∈ ge_E l.reverse := by
                intro l
                induction l with
                | nil => intro x y h; simp [ge_E] at h
                | cons c l ih =>
                  intro x y h
                  cases l with
                  | nil => simp [ge_E] at h
                  | cons d l =>
                    have e9 := ge_E_app l.reverse [c] d
                    have e8 : (c :: d :: l).reverse = l.reverse ++ d :: [c] := by simp
                    rw [e8, e9]
                    simp only [ge_E, List.mem_cons, Prod.mk.injEq] at h
                    rcases h with ⟨rfl, rfl⟩ | h
                    · apply List.mem_append_right; simp [ge_E]
                    · apply List.mem_append_left
                      have := ih x y h
                      simpa using this
              have h9 := hr _ _ _ he
              simp only [List.reverse_cons, List.reverse_reverse] at h9
              cases hM1 : M1 with
              | nil => rw [hM1] at h9; simp [ge_E] at h9
              | cons m M1' => rw [hM1] at h9; simp [ge_E] at h9 ⊢; exact .inr h9
            have hfm := ge_Ed_mem hf
            rcases sub2 f hf with g | g
            · refine apart (e.2, e.1) he2 f g ?_ ?_ ?_ (ge_meet_swap2 hmt)
              · intro h; exact n1 (by rw [show e.1 = f.1 from h]; exact hfm.1)
              · intro h; exact n2 (by rw [show e.2 = f.2 from h]; exact hfm.2)
              · intro h; exact n1 (by rw [show e.1 = f.2 from by rw [← h]]; exact hfm.2)
            · subst g
              refine apartC (e.2, e.1) he2 ?_ ?_ ?_ ?_ (ge_meet_swap (ge_meet_swap2 hmt))
              · intro h; exact n2 (by rw [show e.2 = p from h]; simp)
              · intro h; exact n1 (by rw [show e.1 = p from h]; simp)
              · intro h; exact n2 (by rw [show e.2 = q from h]; simp)
              · intro h; exact n1 (by rw [show e.1 = q from h]; simp)
      obtain ⟨u1, ear1, u1p, u1q⟩ := i1 p q (by rw [ge_Ed_cons]; simp)
      obtain ⟨u2, ear2, u2q, u2p⟩ := i2 q p (by rw [ge_Ed_cons]; simp)
      have m1 : u1 ∈ M1 ++ [a] := by
        obtain ⟨x, y, -, h, -⟩ := ear1
        have := (ge_Ed_mem h).1
        simp at this ⊢; grind
      have m2 : u2 ∈ b :: M2 := by
        obtain ⟨x, y, -, h, -⟩ := ear2
        have := (ge_Ed_mem h).1
        simp at this ⊢; grind
      have E1 : ge_ear (p :: b :: (M2 ++ q :: M1) ++ [a]) D u1 := by
        refine ge_ear_part (p := p) (q := q) hS1 g1 (ge_ss_trans hDD s1) ?_ ear1 u1p u1q ?_
        · intro e he k1 k2
          rcases sub1 e he with g | g
          · exact g
          · subst g; dsimp only at k1; grind
        · intro w hw hw1
          exact out1 w (by simp at hw hw1 ⊢; grind)
      have E2 : ge_ear (p :: b :: (M2 ++ q :: M1) ++ [a]) D u2 := by
        refine ge_ear_part (p := p) (q := q) hS2 g2 (ge_ss_trans hDD s2) ?_ ear2 u2p u2q ?_
        · intro e he k1 k2
          rcases sub2 e he with g | g
          · exact g
          · subst g; dsimp only at k2; grind
        · intro w hw hw1
          exact out2 w (by simp at hw hw1 ⊢; grind)
      have cross : ∀ x y, (x, y) ∈ ge_Ed (p :: b :: (M2 ++ q :: M1) ++ [a]) → ¬ ((x ∈ M1 ++ [a] ∧ y ∈ b :: M2) ∨ (x ∈ b :: M2 ∧ y ∈ M1 ++ [a])) := by
        intro x y hxy h
        rw [hEd] at hxy
        simp only [List.mem_cons, List.mem_append, List.not_mem_nil, or_false, Prod.mk.injEq] at hxy
        rcases hxy with ⟨rfl, rfl⟩ | (g | g) | ⟨rfl, rfl⟩
        · simp at h hn; grind
        · have := ge_E_mem (l := b :: M2 ++ [q]) (by simpa using g)
          simp at h hn this; grind
        · have := ge_E_mem (l := q :: (M1 ++ [a])) (by simpa using g)
          simp at h hn this; grind
        · simp at h hn; grind
      refine ge_E2_two E1 E2 ?_ ?_ ?_
      · rintro rfl; simp at m1 m2 hn; grind
      · intro h; exact cross _ _ h (.inl ⟨m1, m2⟩)
      · intro h; exact cross _ _ h (.inr ⟨m2, m1⟩)
/-! the winding is 0 or one way round, and the area's sign is the sense -/
def ge_BW (P : List ge_P) (D : Int) : Prop := ∀ x, ge_off x P → (0 < D → -1 ≤ ge_W x P ∧ ge_W x P ≤ 0) ∧ (D < 0 → 0 ≤ ge_W x P ∧ ge_W x P ≤ 1)
theorem ge_an_ear {P : List ge_P} (hP : ge_S P) {D : Int} (hD : ge_Sg P D) : ∃ (L1 L2 : List ge_P) (v b a : ge_P) (M : List ge_P), P = L1 ++ L2 ∧ L2 ++ L1 = v :: b :: M ++ [a] ∧ ge_ss D (ge_x a v b) ∧ ∀ u ∈ M, ¬ ge_inS a v b u := by
  obtain ⟨p, hp⟩ : ∃ p, p ∈ P := by
    cases P with
    | nil => have := hP.2.1; simp at this
    | cons p l => exact ⟨p, by simp⟩
  obtain ⟨q, hpq⟩ := ge_Ed_succ hp
  obtain ⟨v, ⟨a, b, h1, h2, h3, h4⟩, -⟩ := ge_ears _ P (Nat.le_refl _) hP D hD p q hpq
  obtain ⟨L1, L2, M, e1, e2⟩ := ge_read hP h1 h2
  refine ⟨L1, L2, v, b, a, M, e1, e2, h3, ?_⟩
  have hR := ge_S_rot (l1 := L1) (l2 := L2) (by rw [← e1]; exact hP)
  rw [e2] at hR
  have hn := hR.1
  intro z hz
  have hz1 : z ∈ L2 ++ L1 := by rw [e2]; simp [hz]
  exact h4 z (by rw [e1]; simp at hz1 ⊢; grind) (by rintro rfl; simp at hn; grind) (by rintro rfl; simp at hn; grind) (by rintro rfl; simp at hn; grind)
theorem ge_off_v {v b a : ge_P} {M : List ge_P} (hP : ge_S (v :: b :: M ++ [a])) (ht : ge_x a v b ≠ 0) : ge_off v (b :: M ++ [a]) := by
  intro e he hm
  have hn := hP.1
  rw [ge_Ed_line, List.mem_append, List.mem_singleton] at he
  obtain ⟨i, j, k, l, hw⟩ := hm
  rcases he with g | g
  · have hme := ge_E_mem g
    rcases ge_V hP (by simp) (ge_S_mid hP g) (ge_wt_symm hw) with ⟨q, -⟩ | ⟨q, -⟩
    · have h1 := hme.1; rw [← q] at h1; simp at h1 hn; grind
    · have h1 := hme.2; rw [← q] at h1; simp at h1 hn; grind
  · subst g
    have hpos : 0 < k + l := by obtain ⟨-, -, -, -, h5, h6, -⟩ := hw; omega
    have a1 := ge_aff hw b a
    have z := ge_x_00 b a
    dsimp only at a1
    rw [z.1, z.2.1] at a1
    have d3 : ge_x b a v = ge_x a v b := by rw [ge_x_rot, ge_x_rot]
    have b1 : (k + l) * ge_x b a v = 0 := by rw [Int.add_mul]; simpa using a1
    rcases Int.mul_eq_zero.mp b1 with g | g <;> omega
/-- from a place in the empty triangle to its corner -/
theorem ge_to_v {v b a : ge_P} {M : List ge_P} (hP : ge_S (v :: b :: M ++ [a])) (hM : M ≠ []) (hem : ∀ u ∈ M, ¬ ge_inS a v b u) {y : ge_P} (hy : ge_inX a v b y) : ge_W y (b :: M ++ [a]) = ge_W v (b :: M ++ [a]) := by
  apply ge_J1
  intro e he hm
  rw [ge_Ed_line, List.mem_append, List.mem_singleton] at he
  obtain ⟨i, j, k, l, hw⟩ := hm
  obtain ⟨hi, hj, hk, hl, h5, h6, -⟩ := id hw
  have z1 := ge_x_00 a v
  have z2 := ge_x_00 v b
  have z3 := ge_x_00 b a
  have d3 : ge_x b a v = ge_x a v b := by rw [ge_x_rot, ge_x_rot]
  have hw' := ge_wt_symm hw
  have a1 := ge_aff hw' a v
  have a2 := ge_aff hw' v b
  have a3 := ge_aff hw' b a
  rw [z1.2.1] at a1
  rw [z2.1] at a2
  rw [d3] at a3
  simp only [Int.mul_zero, Int.add_zero] at a1 a2
  have p3 : 0 < k + l := by omega
  rcases hy with ⟨g0, g1, g2, g3⟩ | ⟨g0, g1, g2, g3⟩
  · have n1 := Int.mul_nonneg hk (show 0 ≤ ge_x a v y by omega)
    have n2 := Int.mul_nonneg hk (show 0 ≤ ge_x v b y by omega)
    have n3 : 0 < k * ge_x b a y + l * ge_x a v b := by
      have m1 := Int.mul_nonneg hk (show 0 ≤ ge_x b a y by omega)
      have m2 := Int.mul_nonneg hl (show 0 ≤ ge_x a v b by omega)
      rcases (show 0 < k ∨ 0 < l by omega) with h | h
      · have := Int.mul_pos h g3; omega
      · have := Int.mul_pos h g0; omega
    rcases he with g | g
    · have := (ge_freeS hP hM hem g hi hj h5 (.inl ⟨g0, by omega, by omega, by omega⟩)).1
      omega
    · subst g
      dsimp only at a3
      rw [z3.1, z3.2.1] at a3
      simp at a3
      omega
  · have n1 := Int.mul_nonneg hk (show 0 ≤ - ge_x a v y by omega)
    have n2 := Int.mul_nonneg hk (show 0 ≤ - ge_x v b y by omega)
    rw [Int.mul_neg] at n1 n2
    have n3 : k * ge_x b a y + l * ge_x a v b < 0 := by
      have m1 := Int.mul_nonneg hk (show 0 ≤ - ge_x b a y by omega)
      have m2 := Int.mul_nonneg hl (show 0 ≤ - ge_x a v b by omega)
      rw [Int.mul_neg] at m1 m2
      rcases (show 0 < k ∨ 0 < l by omega) with h | h
      · have := Int.mul_pos h (show 0 < - ge_x b a y by omega); rw [Int.mul_neg] at this; omega
      · have := Int.mul_pos h (show 0 < - ge_x a v b by omega); rw [Int.mul_neg] at this; omega
    rcases he with g | g
    · have := (ge_freeS hP hM hem g hi hj h5 (.inr ⟨g0, by omega, by omega, by omega⟩)).1
      omega
    · subst g
      dsimp only at a3
      rw [z3.1, z3.2.1] at a3
      simp at a3
      omega
theorem ge_TW_out {x a p b : ge_P} (h : ¬ ge_inS a p b x) (ht : ge_x a p b ≠ 0) : ge_TW x a p b = 0 := by
  rcases (show 0 < ge_x a p b ∨ ge_x a p b < 0 by omega) with g | g
  · apply (ge_tri g).1
    apply Classical.byContradiction
    intro hc
    exact h (.inl ⟨g, by unfold ge_in; omega⟩)
  · have e : ge_x b p a = - ge_x a p b := by unfold ge_x; grind
    have := (ge_tri (x := x) (a := b) (b := p) (c := a) (by omega)).1 (by
      apply Classical.byContradiction
      intro hc
      exact h (.inr ⟨g, by unfold ge_in; omega⟩))
    rw [ge_TW_swap] at this
    omega
theorem ge_B : ∀ (n : Nat) (P : List ge_P), P.length ≤ n → ge_S P → ∀ D, ge_Sg P D → ge_BW P D
  | 0, P, hl, hP, _, _ => by have := hP.2.1; omega
  | n + 1, P, hl, hP, D, hD => by
    obtain ⟨L1, L2, v, b, a, M, h1, h2, ht, hem⟩ := ge_an_ear hP hD
    subst h1
    have hR := ge_S_rot hP
    have hDR := ge_Sg_rot hP hD
    rw [h2] at hR hDR
    have hlen : (v :: b :: M ++ [a]).length ≤ n + 1 := by rw [← h2]; simp at hl ⊢; omega
    have htne : ge_x a v b ≠ 0 := by unfold ge_ss at ht; omega
    intro x hx
    have hx' := ge_off_rot hx
    rw [h2] at hx'
    rw [ge_W_rot, h2]
    by_cases hM : M = []
    · subst hM
      have e2 : ge_W x (b :: [] ++ [a]) = 0 := by
        have := ge_w_swap x a b
        simp [ge_W, ge_cl, ge_C]; omega
      rw [ge_W_cut, e2]
      constructor
      · intro g
        have t := (ge_tri (x := x) (a := a) (b := v) (c := b) (by unfold ge_ss at ht; omega)).2.2
        omega
      · intro g
        have e : ge_x b v a = - ge_x a v b := by unfold ge_x; grind
        have t := (ge_tri (x := x) (a := b) (b := v) (c := a) (by unfold ge_ss at ht; omega)).2.2
        rw [ge_TW_swap] at t
        omega
    · have hS' := ge_S_cut hR hM htne hem
      obtain ⟨D', hD'⟩ := ge_Sg_ex hS'
      have hss := ge_sense hR hM hDR ht hem hD'
      have hI : ∀ m : Int, 0 < m → ge_BW ((b :: M ++ [a]).map (ge_sc m)) (m * m * D') := fun m hm => ge_B n _ (by simp at hlen ⊢; omega) (ge_S_sc hm hS') _ (ge_Sg_sc hm hD')
      have hI0 : ge_BW (b :: M ++ [a]) D' := ge_B n _ (by simp at hlen ⊢; omega) hS' _ hD'
      -- the corner that is cut off is outside of the rest
      have hv0 : ge_W v (b :: M ++ [a]) = 0 := by
        have iv := hI0 v (ge_off_v hR htne)
        obtain ⟨m, y, hm, hoff, o1, o2⟩ := ge_over htne (ge_free2 hR hM htne hem)
        have iy := hI m hm y hoff
        rw [(ge_sc_pos hm).1, (ge_sc_pos hm).2] at iy
        unfold ge_ss at ht hss
        rcases (show 0 < D ∨ D < 0 by omega) with g | g
        · have := o1 (by omega)
          have := iy.1 (by omega)
          have := iv.1 (by omega)
          omega
        · have := o2 (by omega)
          have := iy.2 (by omega)
          have := iv.2 (by omega)
          omega
      have hab : a ≠ b := by have := hR.1; rintro rfl; simp at this
      obtain ⟨m, y, hm, hy, hWy, hny⟩ := ge_shift hx' (u := a) (w := b) hab
      rw [← hWy]
      have hsub : ∀ e ∈ ge_Ed (b :: M ++ [a]), e ∈ ge_Ed (v :: b :: M ++ [a]) ∨ e = (a, b) ∨ e = (b, a) := by
        intro e he
        rw [ge_Ed_line, List.mem_append, List.mem_singleton] at he
        rcases he with g | g
        · exact .inl (ge_S_mid hR g)
        · exact .inr (.inl g)
      have hoff := ge_off_sub hy hny (ge_sc_mem_sub hsub)
      have hIy := hI m hm y hoff
      rw [(ge_sc_pos hm).1, (ge_sc_pos hm).2] at hIy
      have e1 : (v :: b :: M ++ [a]).map (ge_sc m) = ge_sc m v :: ge_sc m b :: M.map (ge_sc m) ++ [ge_sc m a] := by simp
      have e2 : (b :: M ++ [a]).map (ge_sc m) = ge_sc m b :: M.map (ge_sc m) ++ [ge_sc m a] := by simp
      have hRm := ge_S_sc hm hR
      rw [e1] at hRm hy
      rw [e1, ge_W_cut, ← e2]
      have hems : ∀ u ∈ M.map (ge_sc m), ¬ ge_inS (ge_sc m a) (ge_sc m v) (ge_sc m b) u := by
        intro u hu
        obtain ⟨u0, hu0, rfl⟩ := List.mem_map.mp hu
        rw [ge_inS_sc hm]
        exact hem u0 hu0
      have hts := ge_x_sc m a v b
      by_cases hin : ge_inS (ge_sc m a) (ge_sc m v) (ge_sc m b) y
      · have hc := ge_in_edge hy hin
        have hinX : ge_inX (ge_sc m a) (ge_sc m v) (ge_sc m b) y := by
          have h3 : ge_x (ge_sc m b) (ge_sc m a) y ≠ 0 := by
            intro h3
            obtain ⟨s1, s2, s3⟩ := ge_bary (ge_sc m a) (ge_sc m v) (ge_sc m b) y
            apply hny
            rcases hc with ⟨g0, g1, g2, -⟩ | ⟨g0, g1, g2, -⟩
            · exact ⟨ge_x (ge_sc m v) (ge_sc m b) y, ge_x (ge_sc m a) (ge_sc m v) y, ge_x (ge_sc m a) (ge_sc m v) (ge_sc m b), 0, by omega, by omega, by omega, by omega, by omega, by omega, by grind, by grind⟩
            · exact ⟨- ge_x (ge_sc m v) (ge_sc m b) y, - ge_x (ge_sc m a) (ge_sc m v) y, - ge_x (ge_sc m a) (ge_sc m v) (ge_sc m b), 0, by omega, by omega, by omega, by omega, by omega, by omega, by grind, by grind⟩
          unfold ge_inX
          rcases hc with hc | hc
          · left; omega
          · right; omega
        have hTW := ge_TW_in hinX
        have hto := ge_to_v hRm (by simpa using hM) hems hinX
        rw [← e2, ge_W_sc hm, hv0] at hto
        rw [hto]
        have qp := ge_sc_pos (a := ge_x a v b) hm
        unfold ge_ss at ht
        constructor
        · intro g
          have := hTW.1 (by rw [hts]; exact qp.1.mpr (by omega))
          omega
        · intro g
          have := hTW.2 (by rw [hts]; exact qp.2.mpr (by omega))
          omega
      · have h0 := ge_TW_out hin (by
          have qp := ge_sc_pos (a := ge_x a v b) hm
          rw [hts]; omega)
        rw [h0]
        unfold ge_ss at hss
        constructor
        · intro g; have := hIy.1 (by omega); omega
        · intro g; have := hIy.2 (by omega); omega
def ge_r (a b : ge_P) : Int := a.1 * b.2 - b.1 * a.2
def ge_RC : List ge_P → Int
  | a :: b :: l => ge_r a b + ge_RC (b :: l)
  | _ => 0
def ge_R (P : List ge_P) : Int := ge_RC (ge_cl P)
theorem ge_RC_app : ∀ (l1 l2 : List ge_P) (q : ge_P), ge_RC (l1 ++ q :: l2) = ge_RC (l1 ++ [q]) + ge_RC (q :: l2)
  | [], l2, q => by simp [ge_RC]
  | [a], l2, q => by simp [ge_RC]
  | a :: b :: l, l2, q => by
    have := ge_RC_app (b :: l) l2 q
    simp [ge_RC] at this ⊢
    omega
theorem ge_R_rot (l1 l2 : List ge_P) : ge_R (l1 ++ l2) = ge_R (l2 ++ l1) := by
  cases l1 with
  | nil => simp
  | cons c l1 =>
    cases l2 with
    | nil => simp
    | cons p l2 =>
      have h1 := ge_RC_app (c :: l1) (l2 ++ [c]) p
      have h2 := ge_RC_app (p :: l2) (l1 ++ [p]) c
      have e1 : ge_cl (c :: l1 ++ p :: l2) = c :: l1 ++ p :: (l2 ++ [c]) := by simp [ge_cl]
      have e2 : ge_cl (p :: l2 ++ c :: l1) = p :: l2 ++ c :: (l1 ++ [p]) := by simp [ge_cl]
      unfold ge_R
      rw [e1, e2, h1, h2]
      simp
      omega
theorem ge_R_cut (p b a : ge_P) (M : List ge_P) : ge_R (p :: b :: M ++ [a]) = ge_R (b :: M ++ [a]) + ge_x a p b := by
  have h1 := ge_RC_app (b :: M) [p] a
  have h2 := ge_RC_app (b :: M) [b] a
  have e : ge_r a p + ge_r p b = ge_r a b + ge_x a p b := by unfold ge_r ge_x; grind
  simp [ge_R, ge_cl, ge_RC] at h1 h2 ⊢
  omega
theorem ge_area : ∀ (n : Nat) (P : List ge_P), P.length ≤ n → ge_S P → ∀ D, ge_Sg P D → ge_ss D (ge_R P)
  | 0, P, hl, hP, _, _ => by have := hP.2.1; omega
  | n + 1, P, hl, hP, D, hD => by
    obtain ⟨L1, L2, v, b, a, M, h1, h2, ht, hem⟩ := ge_an_ear hP hD
    subst h1
    have hR := ge_S_rot hP
    have hDR := ge_Sg_rot hP hD
    rw [h2] at hR hDR
    rw [ge_R_rot, h2, ge_R_cut]
    have hlen : (v :: b :: M ++ [a]).length ≤ n + 1 := by rw [← h2]; simp at hl ⊢; omega
    by_cases hM : M = []
    · subst hM
      have : ge_R (b :: [] ++ [a]) = 0 := by simp [ge_R, ge_cl, ge_RC, ge_r]; grind
      rw [this]
      simpa using ht
    · have htne : ge_x a v b ≠ 0 := by unfold ge_ss at ht; omega
      have hS' := ge_S_cut hR hM htne hem
      obtain ⟨D', hD'⟩ := ge_Sg_ex hS'
      have hss := ge_sense hR hM hDR ht hem hD'
      have hI := ge_area n _ (by simp at hlen ⊢; omega) hS' D' hD'
      unfold ge_ss at *
      omega
end
section
/-! gift wrapping -/
def hu_d (a b : ge_P) : Int := (b.1 - a.1) * (b.1 - a.1) + (b.2 - a.2) * (b.2 - a.2)
def hu_dot (d u : ge_P) : Int := d.1 * u.1 + d.2 * u.2
def hu_cr (u v : ge_P) : Int := u.1 * v.2 - u.2 * v.1
def hu_v (a b : ge_P) : ge_P := (b.1 - a.1, b.2 - a.2)
theorem hu_cr_x (a b c : ge_P) : hu_cr (hu_v a b) (hu_v a c) = ge_x a b c := by unfold hu_cr hu_v ge_x; grind
/-- in the half plane of d, with a side for its own line -/
def hu_H (d : ge_P) (s : Int) (v : ge_P) : Prop := 0 < hu_cr d v ∨ (hu_cr d v = 0 ∧ 0 < s * hu_dot d v)
theorem hu_sq (t : Int) : 0 ≤ t * t ∧ (t ≠ 0 → 0 < t * t) := by
  rcases (show 0 < t ∨ t = 0 ∨ 0 < -t by omega) with h | h | h
  · have := Int.mul_pos h h; exact ⟨by omega, fun _ => this⟩
  · subst h; simp
  · have := Int.mul_pos h h; have e : -t * -t = t * t := by grind
    rw [e] at this; exact ⟨by omega, fun _ => this⟩
theorem hu_pl (d u v w : ge_P) : hu_cr d v * hu_cr u w = hu_cr d w * hu_cr u v + hu_cr d u * hu_cr v w := by unfold hu_cr; grind
/-- multiples of d -/
theorem hu_line {d v : ge_P} (h : hu_cr d v = 0) (w : ge_P) : hu_dot d d * hu_cr v w = hu_dot d v * hu_cr d w ∧ hu_dot d d * hu_dot v w = hu_dot d v * hu_dot d w := by
  unfold hu_cr hu_dot at *; constructor <;> grind
theorem hu_H_ne {d v : ge_P} {s : Int} (h : hu_H d s v) : 0 < hu_dot d d := by
  have h1 := hu_sq d.1
  have h2 := hu_sq d.2
  rcases (show 0 < hu_dot d d ∨ hu_dot d d ≤ 0 by omega) with g | g
  · exact g
  · exfalso
    unfold hu_dot at g
    have e1 : d.1 = 0 := by
      apply Classical.byContradiction; intro q; have := h1.2 q; omega
    have e2 : d.2 = 0 := by
      apply Classical.byContradiction; intro q; have := h2.2 q; omega
    rcases h with h | h
    · unfold hu_cr at h; rw [e1, e2] at h; simp at h
    · have := h.2; unfold hu_dot at this; rw [e1, e2] at this; simp at this
theorem hu_trans {d u v w : ge_P} {s : Int} (hs : s = 1 ∨ s = -1) (hu : hu_H d s u) (hv : hu_H d s v) (hw : hu_H d s w) (h1 : 0 ≤ hu_cr u v) (h2 : 0 ≤ hu_cr v w) : 0 ≤ hu_cr u w := by
  have hd := hu_H_ne hu
  have pu : 0 ≤ hu_cr d u := by rcases hu with h | h <;> omega
  have pw : 0 ≤ hu_cr d w := by rcases hw with h | h <;> omega
  rcases hv with hv | ⟨hv, hv2⟩
  · have := hu_pl d u v w
    have q1 := Int.mul_nonneg pw h1
    have q2 := Int.mul_nonneg pu h2
    rcases Int.lt_or_le (hu_cr u w) 0 with g | g
    · have := Int.mul_pos hv (show 0 < - hu_cr u w by omega)
      grind
    · exact g
  · -- v is a multiple of d
    have l1 := (hu_line hv w).1
    have l2 := (hu_line hv u).1
    have a1 : hu_cr v u = - hu_cr u v := by unfold hu_cr; grind
    have s1 : 0 ≤ hu_dot d d * hu_cr v w := Int.mul_nonneg (by omega) h2
    have s2 : hu_dot d d * hu_cr v u ≤ 0 := by rw [a1]; have := Int.mul_nonneg (show 0 ≤ hu_dot d d by omega) h1; grind
    rcases hs with rfl | rfl
    · -- v along d : u too
      have hvp : 0 < hu_dot d v := by omega
      have u0 : hu_cr d u = 0 := by
        rcases (show hu_cr d u = 0 ∨ 0 < hu_cr d u by omega) with g | g
        · exact g
        · have := Int.mul_pos hvp g; omega
      have up : 0 < hu_dot d u := by rcases hu with h | h <;> omega
      have l3 := (hu_line u0 w).1
      have q := Int.mul_nonneg (show 0 ≤ hu_dot d u by omega) pw
      rcases Int.lt_or_le (hu_cr u w) 0 with g | g
      · have := Int.mul_pos hd (show 0 < - hu_cr u w by omega)
        grind
      · exact g
    · have hvp : hu_dot d v < 0 := by omega
      have w0 : hu_cr d w = 0 := by
        rcases (show hu_cr d w = 0 ∨ 0 < hu_cr d w by omega) with g | g
        · exact g
        · have := Int.mul_pos (show 0 < - hu_dot d v by omega) g; grind
      have wp : hu_dot d w < 0 := by rcases hw with h | h <;> omega
      have l3 := (hu_line w0 u).1
      have a2 : hu_cr w u = - hu_cr u w := by unfold hu_cr; grind
      have q := Int.mul_nonneg (show 0 ≤ - hu_dot d w by omega) pu
      rcases Int.lt_or_le (hu_cr u w) 0 with g | g
      · have := Int.mul_pos hd (show 0 < - hu_cr u w by omega)
        grind
      · exact g
/-- on one line: on one ray -/
theorem hu_ray {d u v : ge_P} {s : Int} (hs : s = 1 ∨ s = -1) (hu : hu_H d s u) (hv : hu_H d s v) (h : hu_cr u v = 0) : 0 < hu_dot u v := by
  have hd := hu_H_ne hu
  have e1 : hu_dot d d * hu_dot u v = hu_cr d u * hu_cr d v + hu_dot d u * hu_dot d v := by unfold hu_dot hu_cr; grind
  have e2 : hu_dot d d * hu_cr u v = hu_dot d u * hu_cr d v - hu_dot d v * hu_cr d u := by unfold hu_dot hu_cr; grind
  rw [h] at e2
  have key : 0 < hu_cr d u * hu_cr d v + hu_dot d u * hu_dot d v := by
    rcases hu with hu | ⟨hu, hu2⟩
    · rcases hv with hv | ⟨hv, hv2⟩
      · have q1 := Int.mul_pos hu hv
        -- dots of one sign
        have q2 : 0 ≤ hu_dot d u * hu_dot d v := by
          have e3 : hu_dot d u * hu_cr d v = hu_dot d v * hu_cr d u := by omega
          rcases Int.lt_or_le (hu_dot d u * hu_dot d v) 0 with g | g
          · exfalso
            have g1 := Int.mul_pos (show 0 < - (hu_dot d u * hu_dot d v) by omega) q1
            have g2 : (hu_dot d u * hu_dot d v) * (hu_cr d u * hu_cr d v) = (hu_dot d u * hu_cr d v) * (hu_dot d v * hu_cr d u) := by grind
            rw [e3] at g2
            have := (hu_sq (hu_dot d v * hu_cr d u)).1
            grind
          · exact g
        omega
      · exfalso
        rw [hv] at e2
        have : hu_dot d v ≠ 0 := by intro q; rw [q] at hv2; simp at hv2
        simp at e2
        have e3 : hu_dot d v * hu_cr d u = 0 := by omega
        rcases Int.mul_eq_zero.mp e3 with q | q <;> omega
    · have h0 : hu_dot d u * hu_cr d v = 0 := by rw [hu] at e2; simp at e2; omega
      have hu3 : hu_dot d u ≠ 0 := by intro q; rw [q] at hu2; simp at hu2
      have hv0 : hu_cr d v = 0 := by rcases Int.mul_eq_zero.mp h0 with q | q <;> omega
      have hv2 : 0 < s * hu_dot d v := by rcases hv with h | h <;> omega
      rw [hu, hv0]
      rcases hs with rfl | rfl
      · have := Int.mul_pos (show 0 < hu_dot d u by omega) (show 0 < hu_dot d v by omega); simp; exact this
      · have := Int.mul_pos (show 0 < - hu_dot d u by omega) (show 0 < - hu_dot d v by omega); simp; grind
  rw [← e1] at key
  rcases Int.lt_or_le 0 (hu_dot u v) with g | g
  · exact g
  · have := Int.mul_nonneg (show 0 ≤ hu_dot d d by omega) (show 0 ≤ - hu_dot u v by omega)
    grind
/-- is p to be taken before t, seen from a -/
def hu_b (a t p : ge_P) : Prop := ge_x a t p < 0 ∨ (ge_x a t p = 0 ∧ hu_d a t < hu_d a p)
/-- the next corner behind one at the place a, among the first k points -/
def hu_f (pt : Nat → ge_P) (mk : Nat → Bool) (a : ge_P) : Nat → Int
  | 0 => -1
  | k + 1 => if mk k = true ∧ pt k ≠ a ∧ (hu_f pt mk a k < 0 ∨ (ge_x a (pt (hu_f pt mk a k).toNat) (pt k) < 0 ∨ (ge_x a (pt (hu_f pt mk a k).toNat) (pt k) = 0 ∧ hu_d a (pt (hu_f pt mk a k).toNat) < hu_d a (pt k)))) then (k : Int) else hu_f pt mk a k
/-- a corner that has all points (of the first k) in one half plane -/
def hu_X (pt : Nat → ge_P) (mk : Nat → Bool) (n : Nat) (a : ge_P) : Prop := ∃ (d : ge_P) (s : Int), (s = 1 ∨ s = -1) ∧ ∀ p, p < n → mk p = true → pt p ≠ a → hu_H d s (hu_v a (pt p))
def hu_T (pt : Nat → ge_P) (mk : Nat → Bool) (a : ge_P) (k : Nat) (t : Int) : Prop :=
  (t = -1 ∧ ∀ p, p < k → mk p = true → pt p = a) ∨ (0 ≤ t ∧ t.toNat < k ∧ mk t.toNat = true ∧ pt t.toNat ≠ a ∧ (∀ p, p < k → mk p = true → pt p ≠ a → 0 < ge_x a (pt t.toNat) (pt p) ∨ (ge_x a (pt t.toNat) (pt p) = 0 ∧ hu_d a (pt p) ≤ hu_d a (pt t.toNat))) ∧ ∀ p, p < t.toNat → mk p = true → pt p ≠ pt t.toNat)
theorem hu_v_eq {a u v : ge_P} (h : hu_v a u = hu_v a v) : u = v := by
  unfold hu_v at h
  have h1 := congrArg Prod.fst h
  have h2 := congrArg Prod.snd h
  dsimp only at h1 h2
  exact Prod.ext (by omega) (by omega)
/-- on one ray and as far: the same place -/
theorem hu_same {u v : ge_P} (h : hu_cr u v = 0) (hd : 0 < hu_dot u v) (he : hu_dot u u = hu_dot v v) : u = v := by
  have h1 : hu_dot u u * hu_dot v v = hu_dot u v * hu_dot u v + hu_cr u v * hu_cr u v := by unfold hu_dot hu_cr; grind
  rw [h] at h1
  have h2 : hu_dot v v * hu_dot v v = hu_dot u v * hu_dot u v := by rw [he] at h1; simp at h1; omega
  have hv := hu_sq v.1
  have hv2 := hu_sq v.2
  have hvv : 0 ≤ hu_dot v v := by unfold hu_dot; omega
  have h3 : hu_dot v v = hu_dot u v := by
    have : (hu_dot v v - hu_dot u v) * (hu_dot v v + hu_dot u v) = 0 := by grind
    rcases Int.mul_eq_zero.mp this with q | q <;> omega
  have h4 : (u.1 - v.1) * (u.1 - v.1) + (u.2 - v.2) * (u.2 - v.2) = 0 := by
    have : (u.1 - v.1) * (u.1 - v.1) + (u.2 - v.2) * (u.2 - v.2) = hu_dot u u - 2 * hu_dot u v + hu_dot v v := by unfold hu_dot; grind
    omega
  have q1 := hu_sq (u.1 - v.1)
  have q2 := hu_sq (u.2 - v.2)
  have e1 : u.1 - v.1 = 0 := by apply Classical.byContradiction; intro q; have := q1.2 q; omega
  have e2 : u.2 - v.2 = 0 := by apply Classical.byContradiction; intro q; have := q2.2 q; omega
  exact Prod.ext (by omega) (by omega)
theorem hu_sqle {A B C : Int} (hA : 0 < A) (h : A * B = C * C) (h1 : A ≤ C) (h2 : B ≤ A) : A = B := by
  have m1 := Int.mul_nonneg (show 0 ≤ C - A by omega) (show 0 ≤ C + A by omega)
  rcases (show A = B ∨ 0 < A - B by omega) with g | g
  · exact g
  · have := Int.mul_pos hA g
    grind
theorem hu_d_dot (a b : ge_P) : hu_d a b = hu_dot (hu_v a b) (hu_v a b) := rfl
theorem hu_step {d : ge_P} {s : Int} (hs : s = 1 ∨ s = -1) {a t p q : ge_P} (ht : hu_H d s (hu_v a t)) (hp : hu_H d s (hu_v a p)) (hq : hu_H d s (hu_v a q)) (hb : ge_x a t p < 0 ∨ (ge_x a t p = 0 ∧ hu_d a t < hu_d a p)) (hm : 0 < ge_x a t q ∨ (ge_x a t q = 0 ∧ hu_d a q ≤ hu_d a t)) : 0 < ge_x a p q ∨ (ge_x a p q = 0 ∧ hu_d a q ≤ hu_d a p) := by
  simp only [← hu_cr_x] at hb hm ⊢
  have sw : hu_cr (hu_v a p) (hu_v a t) = - hu_cr (hu_v a t) (hu_v a p) := by unfold hu_cr; grind
  have sq : hu_cr (hu_v a q) (hu_v a p) = - hu_cr (hu_v a p) (hu_v a q) := by unfold hu_cr; grind
  have h0 : 0 ≤ hu_cr (hu_v a p) (hu_v a q) := hu_trans hs hp ht hq (by omega) (by omega)
  rcases (show 0 < hu_cr (hu_v a p) (hu_v a q) ∨ hu_cr (hu_v a p) (hu_v a q) = 0 by omega) with g | g
  · exact .inl g
  · right
    refine ⟨g, ?_⟩
    -- q is on p's ray
    have r : 0 ≤ hu_cr (hu_v a t) (hu_v a p) := hu_trans hs ht hq hp (by omega) (by omega)
    have r2 : hu_cr (hu_v a t) (hu_v a p) = 0 ∧ hu_d a t < hu_d a p := by omega
    have r3 : hu_cr (hu_v a q) (hu_v a t) = - hu_cr (hu_v a t) (hu_v a q) := by unfold hu_cr; grind
    have r4 : 0 ≤ hu_cr (hu_v a q) (hu_v a t) := hu_trans hs hq hp ht (by omega) (by omega)
    omega
theorem hu_f_ok {pt : Nat → ge_P} {mk : Nat → Bool} {n : Nat} {a : ge_P} (hX : hu_X pt mk n a) : ∀ k, k ≤ n → hu_T pt mk a k (hu_f pt mk a k) := by
  obtain ⟨d, s, hs, hH⟩ := hX
  intro k
  induction k with
  | zero => intro _; left; exact ⟨rfl, fun p hp => by omega⟩
  | succ k ih =>
    intro hk
    have ih := ih (by omega)
    show hu_T pt mk a (k + 1) (if _ then _ else _)
    split
    · rename_i hc
      obtain ⟨h1, h2, h3⟩ := hc
      right
      have ek : ((k : Int)).toNat = k := by omega
      rw [ek]
      refine ⟨by omega, by omega, h1, h2, ?_, ?_⟩
      · intro p hp hmp hne
        rcases (show p = k ∨ p < k by omega) with g | g
        · subst g; right; exact ⟨(ge_x_00 a (pt p)).2.1, Int.le_refl _⟩
        · rcases ih with ⟨i1, i2⟩ | ⟨i1, i2, i3, i4, i5, i6⟩
          · exact absurd (i2 p g hmp) hne
          · have hb : ge_x a (pt (hu_f pt mk a k).toNat) (pt k) < 0 ∨ (ge_x a (pt (hu_f pt mk a k).toNat) (pt k) = 0 ∧ hu_d a (pt (hu_f pt mk a k).toNat) < hu_d a (pt k)) := by
              rcases h3 with h3 | h3
              · omega
              · exact h3
            exact hu_step hs (hH _ (by omega) i3 i4) (hH k (by omega) h1 h2) (hH p (by omega) hmp hne) hb (i5 p g hmp hne)
      · intro p hp hmp heq
        rcases ih with ⟨i1, i2⟩ | ⟨i1, i2, i3, i4, i5, i6⟩
        · exact h2 (by rw [← heq]; exact i2 p hp hmp)
        · have := i5 p hp hmp (by rw [heq]; exact h2)
          rw [heq] at this
          omega
    · rename_i hc
      rcases ih with ⟨i1, i2⟩ | ⟨i1, i2, i3, i4, i5, i6⟩
      · left
        refine ⟨i1, fun p hp hmp => ?_⟩
        rcases (show p = k ∨ p < k by omega) with g | g
        · subst g
          apply Classical.byContradiction
          intro hne
          exact hc ⟨hmp, hne, .inl (by omega)⟩
        · exact i2 p g hmp
      · right
        refine ⟨i1, by omega, i3, i4, fun p hp hmp hne => ?_, i6⟩
        rcases (show p = k ∨ p < k by omega) with g | g
        · subst g
          have : ¬ (ge_x a (pt (hu_f pt mk a p).toNat) (pt p) < 0 ∨ (ge_x a (pt (hu_f pt mk a p).toNat) (pt p) = 0 ∧ hu_d a (pt (hu_f pt mk a p).toNat) < hu_d a (pt p))) := fun h => hc ⟨hmp, hne, .inr h⟩
          omega
        · exact i5 p g hmp hne
/-- the next corner has all points in one half plane too -/
theorem hu_next {pt : Nat → ge_P} {mk : Nat → Bool} {n : Nat} {a : ge_P} (hX : hu_X pt mk n a) {t : Int} (hT : hu_T pt mk a n t) (ht : 0 ≤ t) : hu_X pt mk n (pt t.toNat) := by
  rcases hT with ⟨h, -⟩ | ⟨-, h2, h3, h4, h5, -⟩
  · omega
  · obtain ⟨d, s, hs, hH⟩ := hX
    refine ⟨hu_v a (pt t.toNat), -1, .inr rfl, fun p hp hmp hne => ?_⟩
    have e1 : hu_cr (hu_v a (pt t.toNat)) (hu_v (pt t.toNat) (pt p)) = ge_x a (pt t.toNat) (pt p) := by unfold hu_cr hu_v ge_x; grind
    have hdd : 0 < hu_dot (hu_v a (pt t.toNat)) (hu_v a (pt t.toNat)) := by
      have q1 := hu_sq ((pt t.toNat).1 - a.1)
      have q2 := hu_sq ((pt t.toNat).2 - a.2)
      show 0 < ((pt t.toNat).1 - a.1) * ((pt t.toNat).1 - a.1) + ((pt t.toNat).2 - a.2) * ((pt t.toNat).2 - a.2)
      have : (pt t.toNat).1 - a.1 ≠ 0 ∨ (pt t.toNat).2 - a.2 ≠ 0 := by
        apply Classical.byContradiction
        intro hc
        apply h4
        exact Prod.ext (by omega) (by omega)
      rcases this with g | g
      · have := q1.2 g; omega
      · have := q2.2 g; omega
    by_cases hpa : pt p = a
    · right
      rw [hpa]
      have e2 : hu_cr (hu_v a (pt t.toNat)) (hu_v (pt t.toNat) a) = 0 := by unfold hu_cr hu_v; grind
      have e3 : hu_dot (hu_v a (pt t.toNat)) (hu_v (pt t.toNat) a) = - hu_dot (hu_v a (pt t.toNat)) (hu_v a (pt t.toNat)) := by unfold hu_dot hu_v; grind
      exact ⟨e2, by omega⟩
    · rcases h5 p hp hmp hpa with g | ⟨g1, g2⟩
      · left; omega
      · right
        refine ⟨by omega, ?_⟩
        have r := hu_ray hs (hH _ h2 h3 h4) (hH p hp hmp hpa) (by rw [hu_cr_x]; exact g1)
        have e3 : hu_dot (hu_v a (pt t.toNat)) (hu_v (pt t.toNat) (pt p)) = hu_dot (hu_v a (pt t.toNat)) (hu_v a (pt p)) - hu_dot (hu_v a (pt t.toNat)) (hu_v a (pt t.toNat)) := by unfold hu_dot hu_v; grind
        -- (u.v)^2 = |u|^2 |v|^2 <= |u|^4, and v is not u
        have h1 : hu_dot (hu_v a (pt t.toNat)) (hu_v a (pt t.toNat)) * hu_dot (hu_v a (pt p)) (hu_v a (pt p)) = hu_dot (hu_v a (pt t.toNat)) (hu_v a (pt p)) * hu_dot (hu_v a (pt t.toNat)) (hu_v a (pt p)) + hu_cr (hu_v a (pt t.toNat)) (hu_v a (pt p)) * hu_cr (hu_v a (pt t.toNat)) (hu_v a (pt p)) := by unfold hu_dot hu_cr; grind
        rw [hu_cr_x, g1] at h1
        rw [hu_d_dot, hu_d_dot] at g2
        generalize hA : hu_dot (hu_v a (pt t.toNat)) (hu_v a (pt t.toNat)) = A at *
        generalize hB : hu_dot (hu_v a (pt p)) (hu_v a (pt p)) = B at *
        generalize hC : hu_dot (hu_v a (pt t.toNat)) (hu_v a (pt p)) = C at *
        rcases Int.lt_or_le C A with q | q
        · omega
        · exfalso
          have m4 : A = B := hu_sqle hdd (by simpa using h1) q g2
          have := hu_same (u := hu_v a (pt t.toNat)) (v := hu_v a (pt p)) (by rw [hu_cr_x]; exact g1) (by omega) (by omega)
          exact hne (hu_v_eq this).symm
theorem hu_inj {pt : Nat → ge_P} {mk : Nat → Bool} {n : Nat} {i j : Nat} (hi : i < n) (mi : mk i = true) (hj : j < n) (mj : mk j = true) (Xi : hu_X pt mk n (pt i)) (Xj : hu_X pt mk n (pt j)) {t t' : Int} (ht : 0 ≤ t) (ht' : 0 ≤ t') (Ti : hu_T pt mk (pt i) n t) (Tj : hu_T pt mk (pt j) n t') (he : pt t.toNat = pt t'.toNat) : pt i = pt j := by
  apply Classical.byContradiction
  intro hne
  rcases Ti with ⟨h, -⟩ | ⟨-, a2, a3, a4, a5, -⟩
  · omega
  rcases Tj with ⟨h, -⟩ | ⟨-, b2, b3, b4, b5, -⟩
  · omega
  rw [← he] at b4 b5
  generalize hT : pt t.toNat = T at *
  have p1 := a5 j hj mj (Ne.symm hne)
  have p2 := b5 i hi mi hne
  have e : ge_x (pt j) T (pt i) = - ge_x (pt i) T (pt j) := by unfold ge_x; grind
  have z : ge_x (pt i) T (pt j) = 0 := by omega
  have z2 : ge_x (pt j) T (pt i) = 0 := by omega
  have d1 : hu_d (pt i) (pt j) ≤ hu_d (pt i) T := by omega
  obtain ⟨d, s, hs, hH⟩ := Xi
  obtain ⟨d', s', hs', hH'⟩ := Xj
  have r1 := hu_ray hs (by have := hH _ a2 a3 (by rw [hT]; exact a4); rw [hT] at this; exact this) (hH j hj mj (Ne.symm hne)) (by rw [hu_cr_x]; exact z)
  have r2 := hu_ray hs' (by have := hH' t.toNat a2 a3 (by rw [hT]; exact b4); rw [hT] at this; exact this) (hH' i hi mi hne) (by rw [hu_cr_x]; exact z2)
  -- u = j - i, w = T - i
  have c1 : hu_dot (hu_v (pt j) T) (hu_v (pt j) (pt i)) = hu_d (pt i) (pt j) - hu_dot (hu_v (pt i) T) (hu_v (pt i) (pt j)) := by unfold hu_dot hu_v hu_d; grind
  have c2 : hu_d (pt i) T * hu_d (pt i) (pt j) = hu_dot (hu_v (pt i) T) (hu_v (pt i) (pt j)) * hu_dot (hu_v (pt i) T) (hu_v (pt i) (pt j)) + ge_x (pt i) T (pt j) * ge_x (pt i) T (pt j) := by unfold hu_dot hu_v hu_d ge_x; grind
  rw [z] at c2
  have q1 := hu_sq ((pt j).1 - (pt i).1)
  have q2 := hu_sq ((pt j).2 - (pt i).2)
  have c3 : 0 ≤ hu_d (pt i) (pt j) := by unfold hu_d; omega
  generalize hu_d (pt i) (pt j) = U at *
  generalize hu_d (pt i) T = V at *
  generalize hu_dot (hu_v (pt i) T) (hu_v (pt i) (pt j)) = C at *
  have g : C < U := by omega
  have m1 := Int.mul_pos (show 0 < U - C by omega) (show 0 < U + C by omega)
  have m2 := Int.mul_nonneg c3 (show 0 ≤ V - U by omega)
  grind
theorem hu_pigeon : ∀ (n : Nat) (f : Nat → Nat), (∀ i, i ≤ n → f i < n) → ∃ i j, i < j ∧ j ≤ n ∧ f i = f j
  | 0, f, h => absurd (h 0 (Nat.le_refl _)) (by omega)
  | n + 1, f, h => by
    by_cases hc : ∃ i, i ≤ n ∧ f i = f (n + 1)
    · obtain ⟨i, h1, h2⟩ := hc
      exact ⟨i, n + 1, by omega, by omega, h2⟩
    · have hc' : ∀ i, i ≤ n → f i ≠ f (n + 1) := fun i hi he => hc ⟨i, hi, he⟩
      obtain ⟨i, j, h1, h2, h3⟩ := hu_pigeon n (fun i => if f i = n then f (n + 1) else f i) (fun i hi => by
        have a1 := h i (by omega)
        have a2 := h (n + 1) (by omega)
        have a3 := hc' i hi
        split <;> omega)
      refine ⟨i, j, h1, by omega, ?_⟩
      have b1 := hc' i (by omega)
      have b2 := hc' j (by omega)
      split at h3 <;> split at h3 <;> omega
/-- the first corner among the first k points -/
def hu_1 (pt : Nat → ge_P) (mk : Nat → Bool) : Nat → Int
  | 0 => -1
  | k + 1 => if mk k = true ∧ (hu_1 pt mk k < 0 ∨ ((pt k).2 < (pt (hu_1 pt mk k).toNat).2 ∨ ((pt k).2 = (pt (hu_1 pt mk k).toNat).2 ∧ (pt k).1 < (pt (hu_1 pt mk k).toNat).1))) then (k : Int) else hu_1 pt mk k
def hu_T1 (pt : Nat → ge_P) (mk : Nat → Bool) (k : Nat) (f : Int) : Prop := (f = -1 ∧ ∀ p, p < k → mk p = false) ∨ (0 ≤ f ∧ f.toNat < k ∧ mk f.toNat = true ∧ (∀ p, p < k → mk p = true → pt p ≠ pt f.toNat → ge_lt (pt f.toNat) (pt p)) ∧ ∀ p, p < f.toNat → mk p = true → pt p ≠ pt f.toNat)
theorem hu_1_ok (pt : Nat → ge_P) (mk : Nat → Bool) : ∀ k, hu_T1 pt mk k (hu_1 pt mk k) := by
  intro k
  induction k with
  | zero => left; exact ⟨rfl, fun p hp => by omega⟩
  | succ k ih =>
    show hu_T1 pt mk (k + 1) (if _ then _ else _)
    have tot : ∀ a b : ge_P, a ≠ b → ge_lt a b ∨ ge_lt b a := by
      intro a b h
      have : a.1 ≠ b.1 ∨ a.2 ≠ b.2 := by
        by_cases h1 : a.1 = b.1
        · exact .inr (fun h2 => h (Prod.ext h1 h2))
        · exact .inl h1
      unfold ge_lt; omega
    split
    · rename_i hc
      obtain ⟨h1, h2⟩ := hc
      right
      have ek : ((k : Int)).toNat = k := by omega
      rw [ek]
      refine ⟨by omega, by omega, h1, ?_, ?_⟩
      · intro p hp hmp hne
        rcases (show p = k ∨ p < k by omega) with g | g
        · subst g; exact absurd rfl hne
        · rcases ih with ⟨i1, i2⟩ | ⟨i1, i2, i3, i4, i5⟩
          · have := i2 p g; rw [hmp] at this; cases this
          · by_cases hpf : pt p = pt (hu_1 pt mk k).toNat
            · rw [hpf]; unfold ge_lt; omega
            · have := i4 p g hmp hpf
              unfold ge_lt at *; omega
      · intro p hp hmp heq
        rcases ih with ⟨i1, i2⟩ | ⟨i1, i2, i3, i4, i5⟩
        · have := i2 p hp; rw [hmp] at this; cases this
        · by_cases hpf : pt p = pt (hu_1 pt mk k).toNat
          · rw [← hpf, heq] at h2; omega
          · have := i4 p hp hmp hpf
            rw [heq] at this
            unfold ge_lt at this; omega
    · rename_i hc
      rcases ih with ⟨i1, i2⟩ | ⟨i1, i2, i3, i4, i5⟩
      · left
        refine ⟨i1, fun p hp => ?_⟩
        rcases (show p = k ∨ p < k by omega) with g | g
        · subst g
          cases hm : mk p with
          | false => rfl
          | true => exact absurd ⟨hm, .inl (by omega)⟩ hc
        · exact i2 p g
      · right
        refine ⟨i1, by omega, i3, fun p hp hmp hne => ?_, i5⟩
        rcases (show p = k ∨ p < k by omega) with g | g
        · subst g
          have n1 : ¬ ((pt p).2 < (pt (hu_1 pt mk p).toNat).2 ∨ ((pt p).2 = (pt (hu_1 pt mk p).toNat).2 ∧ (pt p).1 < (pt (hu_1 pt mk p).toNat).1)) := fun h => hc ⟨hmp, .inr h⟩
          rcases tot _ _ hne with q | q
          · exact absurd q n1
          · exact q
        · exact i4 p g hmp hne
theorem hu_1_X {pt : Nat → ge_P} {mk : Nat → Bool} {n : Nat} {f : Int} (h : hu_T1 pt mk n f) (hf : 0 ≤ f) : hu_X pt mk n (pt f.toNat) := by
  rcases h with ⟨h, -⟩ | ⟨-, h2, h3, h4, -⟩
  · omega
  · refine ⟨(1, 0), 1, .inl rfl, fun p hp hmp hne => ?_⟩
    have := h4 p hp hmp hne
    unfold hu_H hu_cr hu_dot hu_v
    unfold ge_lt at this
    dsimp only
    omega
/-- the walk round -/
def hu_w (pt : Nat → ge_P) (mk : Nat → Bool) (n : Nat) : Nat → Int
  | 0 => hu_1 pt mk n
  | k + 1 => if hu_w pt mk n k < 0 ∨ hu_f pt mk (pt (hu_w pt mk n k).toNat) n < 0 ∨ pt (hu_f pt mk (pt (hu_w pt mk n k).toNat) n).toNat = pt (hu_1 pt mk n).toNat then -1 else hu_f pt mk (pt (hu_w pt mk n k).toNat) n
theorem hu_w_ok (pt : Nat → ge_P) (mk : Nat → Bool) (n : Nat) : ∀ k, 0 ≤ hu_w pt mk n k → (hu_w pt mk n k).toNat < n ∧ mk (hu_w pt mk n k).toNat = true ∧ hu_X pt mk n (pt (hu_w pt mk n k).toNat) ∧ ∀ p, p < (hu_w pt mk n k).toNat → mk p = true → pt p ≠ pt (hu_w pt mk n k).toNat := by
  intro k
  induction k with
  | zero =>
    intro h
    have h1 := hu_1_ok pt mk n
    have hX := hu_1_X h1 h
    rcases h1 with ⟨g, -⟩ | ⟨-, g2, g3, -, g5⟩
    · have : hu_w pt mk n 0 = hu_1 pt mk n := rfl
      omega
    · exact ⟨g2, g3, hX, g5⟩
  | succ k ih =>
    intro h
    have e : hu_w pt mk n (k + 1) = if hu_w pt mk n k < 0 ∨ hu_f pt mk (pt (hu_w pt mk n k).toNat) n < 0 ∨ pt (hu_f pt mk (pt (hu_w pt mk n k).toNat) n).toNat = pt (hu_1 pt mk n).toNat then -1 else hu_f pt mk (pt (hu_w pt mk n k).toNat) n := rfl
    rw [e] at h ⊢
    split at h
    · omega
    · rename_i hc
      rw [if_neg hc]
      have hk : 0 ≤ hu_w pt mk n k := by omega
      obtain ⟨i1, i2, i3, i4⟩ := ih hk
      have hT := hu_f_ok i3 n (Nat.le_refl _)
      have hX := hu_next i3 hT h
      rcases hT with ⟨g, -⟩ | ⟨-, g2, g3, -, -, g6⟩
      · omega
      · exact ⟨g2, g3, hX, g6⟩
theorem hu_w_back {pt : Nat → ge_P} {mk : Nat → Bool} {n k : Nat} (h : 0 ≤ hu_w pt mk n (k + 1)) : 0 ≤ hu_w pt mk n k ∧ hu_w pt mk n (k + 1) = hu_f pt mk (pt (hu_w pt mk n k).toNat) n ∧ pt (hu_w pt mk n (k + 1)).toNat ≠ pt (hu_w pt mk n 0).toNat := by
  have e : hu_w pt mk n (k + 1) = if hu_w pt mk n k < 0 ∨ hu_f pt mk (pt (hu_w pt mk n k).toNat) n < 0 ∨ pt (hu_f pt mk (pt (hu_w pt mk n k).toNat) n).toNat = pt (hu_1 pt mk n).toNat then -1 else hu_f pt mk (pt (hu_w pt mk n k).toNat) n := rfl
  rw [e] at h
  split at h
  · omega
  · rename_i hc
    rw [e, if_neg hc]
    refine ⟨by omega, rfl, fun q => hc (.inr (.inr q))⟩
theorem hu_w_ne (pt : Nat → ge_P) (mk : Nat → Bool) (n : Nat) : ∀ i j, i < j → 0 ≤ hu_w pt mk n j → 0 ≤ hu_w pt mk n i ∧ pt (hu_w pt mk n i).toNat ≠ pt (hu_w pt mk n j).toNat := by
  intro i
  induction i with
  | zero =>
    intro j hj h
    obtain ⟨j', rfl⟩ : ∃ j', j = j' + 1 := ⟨j - 1, by omega⟩
    have h0 : ∀ k, 0 ≤ hu_w pt mk n k → 0 ≤ hu_w pt mk n 0 := by
      intro k
      induction k with
      | zero => exact id
      | succ k ih => intro h; exact ih (hu_w_back h).1
    exact ⟨h0 _ h, (hu_w_back h).2.2.symm⟩
  | succ i ih =>
    intro j hj h
    obtain ⟨j', rfl⟩ : ∃ j', j = j' + 1 := ⟨j - 1, by omega⟩
    have bj := hu_w_back h
    have step : 0 ≤ hu_w pt mk n (i + 1) := by
      have : ∀ d k, 0 ≤ hu_w pt mk n (k + d) → 0 ≤ hu_w pt mk n k := by
        intro d
        induction d with
        | zero => intro k; exact id
        | succ d ihd => intro k hk; exact ihd k (hu_w_back (k := k + d) hk).1
      have hh : j' + 1 = (i + 1) + (j' - i) := by omega
      rw [hh] at h
      exact this _ _ h
    refine ⟨step, fun heq => ?_⟩
    have bi := hu_w_back step
    have I := ih j' (by omega) bj.1
    obtain ⟨a1, a2, a3, -⟩ := hu_w_ok pt mk n i bi.1
    obtain ⟨b1, b2, b3, -⟩ := hu_w_ok pt mk n j' bj.1
    have Ti := hu_f_ok a3 n (Nat.le_refl _)
    have Tj := hu_f_ok b3 n (Nat.le_refl _)
    rw [← bi.2.1] at Ti
    rw [← bj.2.1] at Tj
    exact I.2 (hu_inj a1 a2 b1 b2 a3 b3 step h Ti Tj heq)
/-- the walk comes to its end -/
theorem hu_w_end (pt : Nat → ge_P) (mk : Nat → Bool) (n : Nat) : hu_w pt mk n n < 0 := by
  apply Classical.byContradiction
  intro h
  have h : 0 ≤ hu_w pt mk n n := by omega
  have all : ∀ i, i ≤ n → 0 ≤ hu_w pt mk n i := by
    intro i hi
    rcases (show i = n ∨ i < n by omega) with g | g
    · subst g; exact h
    · exact (hu_w_ne pt mk n i n g h).1
  obtain ⟨i, j, h1, h2, h3⟩ := hu_pigeon n (fun i => (hu_w pt mk n i).toNat) (fun i hi => (hu_w_ok pt mk n i (all i hi)).1)
  exact (hu_w_ne pt mk n i j h1 (all j h2)).2 (by rw [h3])
/-- at the last corner: nothing but it, or the first corner, by its number -/
theorem hu_w_last {pt : Nat → ge_P} {mk : Nat → Bool} {n k : Nat} (h : 0 ≤ hu_w pt mk n k) (h1 : hu_w pt mk n (k + 1) < 0) : hu_f pt mk (pt (hu_w pt mk n k).toNat) n = -1 ∨ hu_f pt mk (pt (hu_w pt mk n k).toNat) n = hu_w pt mk n 0 := by
  have e : hu_w pt mk n (k + 1) = if hu_w pt mk n k < 0 ∨ hu_f pt mk (pt (hu_w pt mk n k).toNat) n < 0 ∨ pt (hu_f pt mk (pt (hu_w pt mk n k).toNat) n).toNat = pt (hu_1 pt mk n).toNat then -1 else hu_f pt mk (pt (hu_w pt mk n k).toNat) n := rfl
  obtain ⟨a1, a2, a3, -⟩ := hu_w_ok pt mk n k h
  have hT := hu_f_ok a3 n (Nat.le_refl _)
  rw [e] at h1
  split at h1
  · rename_i hc
    rcases hT with ⟨g, -⟩ | ⟨g1, g2, g3, -, -, g6⟩
    · exact .inl g
    · right
      have hp : pt (hu_f pt mk (pt (hu_w pt mk n k).toNat) n).toNat = pt (hu_1 pt mk n).toNat := by
        rcases hc with q | q | q
        · omega
        · omega
        · exact q
      have h0 : 0 ≤ hu_w pt mk n 0 := by
        rcases (show k = 0 ∨ 0 < k by omega) with q | q
        · subst q; exact h
        · exact (hu_w_ne pt mk n 0 k q h).1
      obtain ⟨b1, b2, -, b4⟩ := hu_w_ok pt mk n 0 h0
      have e0 : hu_w pt mk n 0 = hu_1 pt mk n := rfl
      rw [e0] at b1 b2 b4 h0 ⊢
      have c1 : ¬ (hu_f pt mk (pt (hu_w pt mk n k).toNat) n).toNat < (hu_1 pt mk n).toNat := fun q => b4 _ q g3 hp
      have c2 : ¬ (hu_1 pt mk n).toNat < (hu_f pt mk (pt (hu_w pt mk n k).toNat) n).toNat := fun q => g6 _ q b2 hp.symm
      omega
  · omega
end
section
/-! whole numbers for ints and longs -/
theorem nu_i {a : Int} (h1 : -2147483648 ≤ a) (h2 : a < 2147483648) : (Int32.ofInt a).toInt = a := Int32.toInt_ofInt_of_le (by simpa using h1) (by simpa using h2)
theorem nu_l {a : Int} (h1 : -9223372036854775808 ≤ a) (h2 : a < 9223372036854775808) : (Int64.ofInt a).toInt = a := Int64.toInt_ofInt_of_le (by simpa using h1) (by simpa using h2)
theorem nu_lt {a b : Int} (a1 : -2147483648 ≤ a) (a2 : a < 2147483648) (b1 : -2147483648 ≤ b) (b2 : b < 2147483648) : Int32.ofInt a < Int32.ofInt b ↔ a < b := by
  rw [Int32.lt_iff_toInt_lt, nu_i a1 a2, nu_i b1 b2]
theorem nu_le {a b : Int} (a1 : -2147483648 ≤ a) (a2 : a < 2147483648) (b1 : -2147483648 ≤ b) (b2 : b < 2147483648) : Int32.ofInt a ≤ Int32.ofInt b ↔ a ≤ b := by
  rw [Int32.le_iff_toInt_le, nu_i a1 a2, nu_i b1 b2]
theorem nu_eq {a b : Int} (a1 : -2147483648 ≤ a) (a2 : a < 2147483648) (b1 : -2147483648 ≤ b) (b2 : b < 2147483648) : Int32.ofInt a = Int32.ofInt b ↔ a = b := by
  constructor
  · intro h
    have := congrArg Int32.toInt h
    rwa [nu_i a1 a2, nu_i b1 b2] at this
  · intro h; rw [h]
theorem nu_llt {a b : Int} (a1 : -9223372036854775808 ≤ a) (a2 : a < 9223372036854775808) (b1 : -9223372036854775808 ≤ b) (b2 : b < 9223372036854775808) : Int64.ofInt a < Int64.ofInt b ↔ a < b := by
  rw [Int64.lt_iff_toInt_lt, nu_l a1 a2, nu_l b1 b2]
theorem nu_leq {a b : Int} (a1 : -9223372036854775808 ≤ a) (a2 : a < 9223372036854775808) (b1 : -9223372036854775808 ≤ b) (b2 : b < 9223372036854775808) : Int64.ofInt a = Int64.ofInt b ↔ a = b := by
  constructor
  · intro h
    have := congrArg Int64.toInt h
    rwa [nu_l a1 a2, nu_l b1 b2] at this
  · intro h; rw [h]
theorem nu_add (a b : Int) : Int32.ofInt a + Int32.ofInt b = Int32.ofInt (a + b) := (Int32.ofInt_add a b).symm
theorem nu_mul (a b : Int) : Int32.ofInt a * Int32.ofInt b = Int32.ofInt (a * b) := (Int32.ofInt_mul a b).symm
theorem nu_sub (a b : Int) : Int32.ofInt a - Int32.ofInt b = Int32.ofInt (a - b) := (Int32.ofInt_sub a b).symm
theorem nu_ladd (a b : Int) : Int64.ofInt a + Int64.ofInt b = Int64.ofInt (a + b) := (Int64.ofInt_add a b).symm
theorem nu_lmul (a b : Int) : Int64.ofInt a * Int64.ofInt b = Int64.ofInt (a * b) := (Int64.ofInt_mul a b).symm
theorem nu_lsub (a b : Int) : Int64.ofInt a - Int64.ofInt b = Int64.ofInt (a - b) := (Int64.ofInt_sub a b).symm
theorem nu_i2l {a : Int} (h1 : -2147483648 ≤ a) (h2 : a < 2147483648) : (Int32.ofInt a).toInt64 = Int64.ofInt a := by
  apply Int64.toInt.inj
  rw [Int32.toInt_toInt64, nu_i h1 h2, nu_l (by omega) (by omega)]
theorem nu_cmp {a b : Int} (a1 : -9223372036854775808 ≤ a) (a2 : a < 9223372036854775808) (b1 : -9223372036854775808 ≤ b) (b2 : b < 9223372036854775808) : lg_cmp (Int64.ofInt a) (Int64.ofInt b) = Int32.ofInt (if b < a then 1 else if a = b then 0 else -1) := by
  unfold lg_cmp
  have h1 := nu_llt b1 b2 a1 a2
  have h2 := nu_leq a1 a2 b1 b2
  by_cases g1 : b < a
  · rw [if_pos (h1.mpr g1), if_pos g1]; rfl
  · rw [if_neg (fun q => g1 (h1.mp q)), if_neg g1]
    by_cases g2 : a = b
    · rw [if_pos (h2.mpr g2), if_pos g2]; rfl
    · rw [if_neg (fun q => g2 (h2.mp q)), if_neg g2]; rfl
theorem nu_nat {a : Int} (h1 : 0 ≤ a) (h2 : a < 2147483648) : (Int32.ofInt a).toNatClampNeg = a.toNat := by
  show (Int32.ofInt a).toInt.toNat = a.toNat
  rw [nu_i (by omega) h2]
theorem nu_in {a : Int} {n : Nat} (h1 : 0 ≤ a) (h2 : a < n) (hn : n < 2147483648) : vp_in (Int32.ofInt a) n := by
  unfold vp_in
  rw [nu_nat h1 (by omega)]
  intro h
  rcases h with h | h
  · have := (nu_lt (a := a) (b := 0) (by omega) (by omega) (by omega) (by omega)).mp h
    omega
  · omega
theorem nu_div {a b : Int} (a1 : 0 ≤ a) (a2 : a < 2147483648) (b1 : 0 < b) (b2 : b < 2147483648) : Int32.ofInt a / Int32.ofInt b = Int32.ofInt (a / b) := by
  apply Int32.toInt.inj
  have h1 := Int.ediv_nonneg a1 (show 0 ≤ b by omega)
  have h2 : a / b ≤ a := Int.ediv_le_self b a1
  rw [Int32.toInt_div, nu_i (by omega) a2, nu_i (by omega) b2, nu_i (by omega) (by omega)]
  rw [Int.tdiv_eq_ediv_of_nonneg a1]
  rw [Int.bmod_eq_of_le (by omega) (by omega)]
theorem nu_rem {a b : Int} (a1 : 0 ≤ a) (a2 : a < 2147483648) (b1 : 0 < b) (b2 : b < 2147483648) : Int32.ofInt a - Int32.ofInt a / Int32.ofInt b * Int32.ofInt b = Int32.ofInt (a % b) := by
  rw [nu_div a1 a2 b1 b2, nu_mul, nu_sub]
  congr 1
  have := Int.emod_add_mul_ediv a b
  rw [Int.mul_comm] at this
  omega
end
section
/-! THE PLAIN MACHINE: values are whole numbers and numbers of cells; a heap is a function; one layout of cells for ever -/
abbrev AV : Type := Int ⊕ (Int ⊕ Nat)
abbrev AH : Type := Nat → Nat → Int
abbrev AE : Type := ((Nat → ClassId) × (Nat → Nat → Nat)) × (ClassId × ClassId × ClassId) × (Nat → Nat)
abbrev AJ : Type := Nat → List (Option AV) → List AV → AH → Prop
abbrev AR : Type := Option AV → AH → Prop
abbrev AG : Type := Nat → List AV → AH → AR → Prop
abbrev AD : Type := AG → AJ → AR → AJ
def am_v (E : AE) : AV → Value
  | .inl a => .int (Int32.ofInt a)
  | .inr (.inl a) => .long (Int64.ofInt a)
  | .inr (.inr c) => .ref (E.2.2 c)
/-- a cell of the layout: an object (its class's number, for each field the cell that it names, or none: an int), or an array (0 of ints, 1 of longs, 2 of booleans; its length) -/
abbrev AL : Type := (Nat × List (Option Nat)) ⊕ (Nat × Nat)
def am_f (E : AE) (h : Nat → Int) : Nat → List (Option Nat) → List Value
  | _, [] => []
  | k, none :: fs => .int (Int32.ofInt (h k)) :: am_f E h (k + 1) fs
  | k, some r :: fs => .ref (E.2.2 r) :: am_f E h (k + 1) fs
def am_c (E : AE) (h : Nat → Int) : AL → va_E
  | .inl o => .inr (o.1, am_f E h 0 o.2)
  | .inr (0, n) => .inl (E.2.1.1, n, .inl (fun j => Int32.ofInt (h j)))
  | .inr (1, n) => .inl (E.2.1.2.1, n, .inr (.inl (fun j => Int64.ofInt (h j))))
  | .inr (_, n) => .inl (E.2.1.2.2, n, .inl (fun j => Int32.ofInt (h j)))
def am_w (Y : List AL) (E : AE) (h : AH) : va_W := Y.mapIdx (fun c q => (E.2.2 c, am_c E (h c) q))
theorem am_w_at {Y : List AL} {E : AE} {h : AH} {c : Nat} {q : AL} (hc : Y[c]? = some q) : (am_w Y E h)[c]? = some (E.2.2 c, am_c E (h c) q) := by
  unfold am_w
  rw [List.getElem?_mapIdx, hc]
  rfl
def am_up (h : AH) (c i : Nat) (v : Int) : AH := fun c' j => if c' = c ∧ j = i then v else h c' j
theorem am_f_len (E : AE) (h : Nat → Int) : ∀ (k : Nat) (fs : List (Option Nat)), (am_f E h k fs).length = fs.length
  | _, [] => rfl
  | k, none :: fs => by simp [am_f, am_f_len E h (k + 1) fs]
  | k, some r :: fs => by simp [am_f, am_f_len E h (k + 1) fs]
theorem am_f_int (E : AE) (h : Nat → Int) : ∀ (k : Nat) (fs : List (Option Nat)) (i : Nat), fs[i]? = some none → (am_f E h k fs)[i]? = some (.int (Int32.ofInt (h (k + i))))
  | _, [], i, hi => by simp at hi
  | k, none :: fs, 0, hi => by simp [am_f]
  | k, some r :: fs, 0, hi => by simp at hi
  | k, none :: fs, i + 1, hi => by
    have := am_f_int E h (k + 1) fs i (by simpa using hi)
    simp only [am_f, List.getElem?_cons_succ]
    rw [this]
    congr 4
    omega
  | k, some r :: fs, i + 1, hi => by
    have := am_f_int E h (k + 1) fs i (by simpa using hi)
    simp only [am_f, List.getElem?_cons_succ]
    rw [this]
    congr 4
    omega
theorem am_f_ref (E : AE) (h : Nat → Int) : ∀ (k : Nat) (fs : List (Option Nat)) (i r : Nat), fs[i]? = some (some r) → (am_f E h k fs)[i]? = some (.ref (E.2.2 r))
  | _, [], i, r, hi => by simp at hi
  | k, none :: fs, 0, r, hi => by simp at hi
  | k, some r' :: fs, 0, r, hi => by simp at hi; subst hi; simp [am_f]
  | k, none :: fs, i + 1, r, hi => by
    simp only [am_f, List.getElem?_cons_succ]
    exact am_f_ref E h (k + 1) fs i r (by simpa using hi)
  | k, some r' :: fs, i + 1, r, hi => by
    simp only [am_f, List.getElem?_cons_succ]
    exact am_f_ref E h (k + 1) fs i r (by simpa using hi)
theorem am_f_same (E : AE) {h g : Nat → Int} : ∀ (k : Nat) (fs : List (Option Nat)), (∀ i, fs[i]? = some none → h (k + i) = g (k + i)) → am_f E h k fs = am_f E g k fs
  | _, [], _ => rfl
  | k, none :: fs, hh => by
    have h0 := hh 0 rfl
    have := am_f_same E (h := h) (g := g) (k + 1) fs (fun i hi => by have := hh (i + 1) (by simpa using hi); rw [show k + 1 + i = k + (i + 1) by omega]; exact this)
    simp only [am_f]
    rw [this, show h k = g k from h0]
  | k, some r :: fs, hh => by
    have := am_f_same E (h := h) (g := g) (k + 1) fs (fun i hi => by have := hh (i + 1) (by simpa using hi); rw [show k + 1 + i = k + (i + 1) by omega]; exact this)
    simp only [am_f]
    rw [this]
theorem am_f_set (E : AE) (h : Nat → Int) (v : Int) : ∀ (k : Nat) (fs : List (Option Nat)) (i : Nat), fs[i]? = some none → am_f E (fun j => if j = k + i then v else h j) k fs = (am_f E h k fs).set i (.int (Int32.ofInt v))
  | _, [], i, hi => by simp at hi
  | k, some r :: fs, 0, hi => by simp at hi
  | k, none :: fs, 0, hi => by
    simp only [am_f, List.set_cons_zero]
    rw [am_f_same E (h := fun j => if j = k + 0 then v else h j) (g := h) (k + 1) fs (fun i _ => by rw [if_neg (by omega)])]
    simp
  | k, none :: fs, i + 1, hi => by
    have := am_f_set E h v (k + 1) fs i (by simpa using hi)
    simp only [am_f, List.set_cons_succ]
    rw [← this, if_neg (by omega)]
    congr 2
    funext j
    rw [show k + 1 + i = k + (i + 1) by omega]
  | k, some r :: fs, i + 1, hi => by
    have := am_f_set E h v (k + 1) fs i (by simpa using hi)
    simp only [am_f, List.set_cons_succ]
    rw [← this]
    congr 2
    funext j
    rw [show k + 1 + i = k + (i + 1) by omega]
/-- a write to one place of one cell -/
theorem am_w_set {Y : List AL} {E : AE} {h : AH} {c i : Nat} {v : Int} {q : AL} {x : va_E} (hc : Y[c]? = some q) (hx : am_c E (fun j => if j = i then v else h c j) q = x) : am_w Y E (am_up h c i v) = (am_w Y E h).set c (E.2.2 c, x) := by
  apply List.ext_getElem?
  intro k
  have hl : c < Y.length := (List.getElem?_eq_some_iff.mp hc).1
  by_cases hk : k = c
  · subst hk
    rw [List.getElem?_set_self (by simp [am_w, hl]), am_w_at hc, ← hx]
    congr 3
    funext j
    simp [am_up]
  · rw [List.getElem?_set_ne (Ne.symm hk)]
    unfold am_w
    rw [List.getElem?_mapIdx, List.getElem?_mapIdx]
    congr 1
    funext q
    congr 2
    funext j
    simp [am_up, hk]
/-- which cells may change -/
def am_A (Y : List AL) (E : AE) (sz : Nat) : Nat → Prop := fun a => (∃ c, c < Y.length ∧ a = E.2.2 c) ∨ sz ≤ a
theorem am_D_any {Y : List AL} {E : AE} {A : Nat → Prop} {h g : AH} (hD : va_D A (am_w Y E h)) : va_D A (am_w Y E g) := by
  have key : ∀ (k : Nat) (q : Nat × va_E), (am_w Y E g)[k]? = some q → ∃ q', (am_w Y E h)[k]? = some q' ∧ q'.1 = q.1 := by
    intro k q hk
    unfold am_w at hk ⊢
    rw [List.getElem?_mapIdx] at hk ⊢
    cases hy : Y[k]? with
    | none => rw [hy] at hk; cases hk
    | some y => rw [hy] at hk; cases hk; exact ⟨_, rfl, rfl⟩
  refine ⟨fun i j p q hp hq he => ?_, fun k q hq => ?_⟩
  · obtain ⟨p', h1, h2⟩ := key i p hp
    obtain ⟨q', h3, h4⟩ := key j q hq
    exact hD.1 i j p' q' h1 h3 (by rw [h2, h4, he])
  · obtain ⟨q', h1, h2⟩ := key k q hq
    rw [← h2]; exact hD.2 k q' h1
theorem am_D_self {Y : List AL} {E : AE} {A : Nat → Prop} {h : AH} {sz : Nat} (hD : va_D A (am_w Y E h)) : va_D (am_A Y E sz) (am_w Y E h) := by
  refine ⟨hD.1, fun k q hq => ?_⟩
  unfold am_w at hq
  rw [List.getElem?_mapIdx] at hq
  cases hy : Y[k]? with
  | none => rw [hy] at hq; cases hq
  | some y =>
    rw [hy] at hq
    cases hq
    exact .inl ⟨k, (List.getElem?_eq_some_iff.mp hy).1, rfl⟩
/-! locals -/
def am_a (E : AE) : Nat → List (Option AV) → List (Nat × Value)
  | _, [] => []
  | k, none :: t => am_a E (k + 1) t
  | k, some v :: t => (k, am_v E v) :: am_a E (k + 1) t
theorem am_a_mem (E : AE) : ∀ (k : Nat) (L : List (Option AV)) (i : Nat) (x : Value), (i, x) ∈ am_a E k L ↔ ∃ v, L[i - k]? = some (some v) ∧ k ≤ i ∧ x = am_v E v
  | k, [], i, x => by simp [am_a]
  | k, none :: t, i, x => by
    simp only [am_a]
    rw [am_a_mem E (k + 1) t i x]
    constructor
    · rintro ⟨v, h1, h2, h3⟩
      exact ⟨v, by rw [show i - k = (i - (k + 1)) + 1 by omega]; simpa using h1, by omega, h3⟩
    · rintro ⟨v, h1, h2, h3⟩
      have : i ≠ k := by rintro rfl; simp at h1
      exact ⟨v, by rw [show i - k = (i - (k + 1)) + 1 by omega] at h1; simpa using h1, by omega, h3⟩
  | k, some w :: t, i, x => by
    simp only [am_a, List.mem_cons, Prod.mk.injEq]
    rw [am_a_mem E (k + 1) t i x]
    constructor
    · rintro (⟨h1, h2⟩ | ⟨v, h1, h2, h3⟩)
      · subst h1; exact ⟨w, by simp, by omega, h2⟩
      · exact ⟨v, by rw [show i - k = (i - (k + 1)) + 1 by omega]; simpa using h1, by omega, h3⟩
    · rintro ⟨v, h1, h2, h3⟩
      by_cases hk : i = k
      · subst hk; left; simp at h1; subst h1; exact ⟨rfl, h3⟩
      · right; exact ⟨v, by rw [show i - k = (i - (k + 1)) + 1 by omega] at h1; simpa using h1, by omega, h3⟩
theorem am_l_at {E : AE} {ls : Array Slot} {nL : Nat} {L : List (Option AV)} (h : lv_has ls nL (am_a E 0 L)) {i : Nat} {v : AV} (hi : L[i]? = some (some v)) : ls[i]? = some (.val (am_v E v)) :=
  h.2.2 (i, am_v E v) ((am_a_mem E 0 L i _).mpr ⟨v, by simpa using hi, by omega, rfl⟩)
def am_isL : Option AV → Bool
  | some (.inr (.inl _)) => true
  | _ => false
/-- store: one slot -/
def am_st (v : AV) : Nat → List (Option AV) → (List (Option AV) → Prop) → Prop
  | _, [], _ => False
  | 0, _ :: t, k => k (some v :: t)
  | 1, x :: t, k => match x with
    | some (.inr (.inl _)) => am_st v 0 t (fun t' => k (none :: t'))
    | some (.inl a) => am_st v 0 t (fun t' => k (some (.inl a) :: t'))
    | some (.inr (.inr a)) => am_st v 0 t (fun t' => k (some (.inr (.inr a)) :: t'))
    | none => am_st v 0 t (fun t' => k (none :: t'))
  | i + 2, x :: t, k => am_st v (i + 1) t (fun t' => k (x :: t'))
/-- store: a long, two slots -/
def am_st2 (v : AV) : Nat → List (Option AV) → (List (Option AV) → Prop) → Prop
  | 0, _ :: _ :: t, k => k (some v :: none :: t)
  | 1, x :: t, k => match x with
    | some (.inr (.inl _)) => am_st2 v 0 t (fun t' => k (none :: t'))
    | some (.inl a) => am_st2 v 0 t (fun t' => k (some (.inl a) :: t'))
    | some (.inr (.inr a)) => am_st2 v 0 t (fun t' => k (some (.inr (.inr a)) :: t'))
    | none => am_st2 v 0 t (fun t' => k (none :: t'))
  | i + 2, x :: t, k => am_st2 v (i + 1) t (fun t' => k (x :: t'))
  | _, _, _ => False
theorem am_st_ok (v : AV) : ∀ (i : Nat) (L : List (Option AV)) (k : List (Option AV) → Prop), am_st v i L k → ∃ L', k L' ∧ i < L.length ∧ L'.length = L.length ∧ ∀ (j : Nat) (w : AV), L'[j]? = some (some w) → (j = i ∧ w = v) ∨ (j ≠ i ∧ L[j]? = some (some w) ∧ ¬ (j + 1 = i ∧ am_isL (some w) = true))
  | i, [], k, h => by cases i with
    | zero => exact h.elim
    | succ i => cases i with
      | zero => exact h.elim
      | succ i => exact h.elim
  | 0, x :: t, k, h => ⟨_, h, by simp, by simp, fun j w hj => by
      cases j with
      | zero => simp at hj; exact .inl ⟨rfl, hj.symm⟩
      | succ j => right; exact ⟨by omega, by simpa using hj, by omega⟩⟩
  | 1, x :: t, k, h => by
    have key : ∀ (y : Option AV), (∀ w, y = some w → x = some w ∧ am_isL (some w) = false) → am_st v 0 t (fun t' => k (y :: t')) → ∃ L', k L' ∧ 1 < (x :: t).length ∧ L'.length = (x :: t).length ∧ ∀ (j : Nat) (w : AV), L'[j]? = some (some w) → (j = 1 ∧ w = v) ∨ (j ≠ 1 ∧ (x :: t)[j]? = some (some w) ∧ ¬ (j + 1 = 1 ∧ am_isL (some w) = true)) := by
      intro y hy hk
      obtain ⟨L', h1, h2, h3, h4⟩ := am_st_ok v 0 t _ hk
      refine ⟨y :: L', h1, by simp; omega, by simp [h3], fun j w hj => ?_⟩
      cases j with
      | zero =>
        right
        simp at hj
        obtain ⟨e1, e2⟩ := hy w hj
        exact ⟨by omega, by simp [e1], by simp [e2]⟩
      | succ j =>
        rcases h4 j w (by simpa using hj) with ⟨e1, e2⟩ | ⟨e1, e2, -⟩
        · left; exact ⟨by omega, e2⟩
        · right; exact ⟨by omega, by simpa using e2, by omega⟩
    match x, h with
    | some (.inr (.inl a)), h => exact key none (by simp) h
    | some (.inl a), h => exact key (some (.inl a)) (by rintro w hw; cases hw; exact ⟨rfl, rfl⟩) h
    | some (.inr (.inr a)), h => exact key (some (.inr (.inr a))) (by rintro w hw; cases hw; exact ⟨rfl, rfl⟩) h
    | none, h => exact key none (by simp) h
  | i + 2, x :: t, k, h => by
    obtain ⟨L', h1, h2, h3, h4⟩ := am_st_ok v (i + 1) t _ h
    refine ⟨x :: L', h1, by simp; omega, by simp [h3], fun j w hj => ?_⟩
    cases j with
    | zero => right; exact ⟨by omega, by simpa using hj, by omega⟩
    | succ j =>
      rcases h4 j w (by simpa using hj) with ⟨e1, e2⟩ | ⟨e1, e2, e3⟩
      · left; exact ⟨by omega, e2⟩
      · right; exact ⟨by omega, by simpa using e2, by intro g; exact e3 ⟨by omega, g.2⟩⟩
theorem am_st2_ok (v : AV) : ∀ (i : Nat) (L : List (Option AV)) (k : List (Option AV) → Prop), am_st2 v i L k → ∃ L', k L' ∧ i + 1 < L.length ∧ L'.length = L.length ∧ ∀ (j : Nat) (w : AV), L'[j]? = some (some w) → (j = i ∧ w = v) ∨ (j ≠ i ∧ j ≠ i + 1 ∧ L[j]? = some (some w) ∧ ¬ (j + 1 = i ∧ am_isL (some w) = true))
  | i, [], k, h => by cases i with
    | zero => exact h.elim
    | succ i => cases i with
      | zero => exact h.elim
      | succ i => exact h.elim
  | 0, [x], k, h => h.elim
  | 0, x :: y :: t, k, h => ⟨_, h, by simp, by simp, fun j w hj => by
      match j, hj with
      | 0, hj => simp at hj; exact .inl ⟨rfl, hj.symm⟩
      | 1, hj => simp at hj
      | j + 2, hj => right; exact ⟨by omega, by omega, by simpa using hj, by omega⟩⟩
  | 1, x :: t, k, h => by
    have key : ∀ (y : Option AV), (∀ w, y = some w → x = some w ∧ am_isL (some w) = false) → am_st2 v 0 t (fun t' => k (y :: t')) → ∃ L', k L' ∧ 1 + 1 < (x :: t).length ∧ L'.length = (x :: t).length ∧ ∀ (j : Nat) (w : AV), L'[j]? = some (some w) → (j = 1 ∧ w = v) ∨ (j ≠ 1 ∧ j ≠ 1 + 1 ∧ (x :: t)[j]? = some (some w) ∧ ¬ (j + 1 = 1 ∧ am_isL (some w) = true)) := by
      intro y hy hk
      obtain ⟨L', h1, h2, h3, h4⟩ := am_st2_ok v 0 t _ hk
      refine ⟨y :: L', h1, by simp; omega, by simp [h3], fun j w hj => ?_⟩
      cases j with
      | zero =>
        right
        simp at hj
        obtain ⟨e1, e2⟩ := hy w hj
        exact ⟨by omega, by omega, by simp [e1], by simp [e2]⟩
      | succ j =>
        rcases h4 j w (by simpa using hj) with ⟨e1, e2⟩ | ⟨e1, e2, e3, -⟩
        · left; exact ⟨by omega, e2⟩
        · right; exact ⟨by omega, by omega, by simpa using e3, by omega⟩
    match x, h with
    | some (.inr (.inl a)), h => exact key none (by simp) h
    | some (.inl a), h => exact key (some (.inl a)) (by rintro w hw; cases hw; exact ⟨rfl, rfl⟩) h
    | some (.inr (.inr a)), h => exact key (some (.inr (.inr a))) (by rintro w hw; cases hw; exact ⟨rfl, rfl⟩) h
    | none, h => exact key none (by simp) h
  | i + 2, x :: t, k, h => by
    obtain ⟨L', h1, h2, h3, h4⟩ := am_st2_ok v (i + 1) t _ h
    refine ⟨x :: L', h1, by simp; omega, by simp [h3], fun j w hj => ?_⟩
    cases j with
    | zero => right; exact ⟨by omega, by omega, by simpa using hj, by omega⟩
    | succ j =>
      rcases h4 j w (by simpa using hj) with ⟨e1, e2⟩ | ⟨e1, e2, e3, e4⟩
      · left; exact ⟨by omega, e2⟩
      · right; exact ⟨by omega, by omega, by simpa using e3, by intro g; exact e4 ⟨by omega, g.2⟩⟩
theorem am_cat (E : AE) (w : AV) : ((am_v E w).category == 2) = am_isL (some w) := by
  match w with
  | .inl a => rfl
  | .inr (.inl a) => rfl
  | .inr (.inr a) => rfl
theorem am_st_has {E : AE} {ls' : Array Slot} {nL : Nat} {L L' : List (Option AV)} {i : Nat} {v : AV} (h : lv_has ls' nL ((i, am_v E v) :: (am_a E 0 L).filter (fun q => !(q.1 == i) && !(q.1 + 1 == i && q.2.category == 2))))
    (hL : ∀ (j : Nat) (w : AV), L'[j]? = some (some w) → (j = i ∧ w = v) ∨ (j ≠ i ∧ L[j]? = some (some w) ∧ ¬ (j + 1 = i ∧ am_isL (some w) = true))) : lv_has ls' nL (am_a E 0 L') := by
  refine ⟨h.1, h.2.1, fun q hq => h.2.2 q ?_⟩
  obtain ⟨j, x⟩ := q
  obtain ⟨w, h1, -, h3⟩ := (am_a_mem E 0 L' j x).mp hq
  rcases hL j w (by simpa using h1) with ⟨e1, e2⟩ | ⟨e1, e2, e3⟩
  · subst e1; subst e2; subst h3; exact List.mem_cons_self
  · apply List.mem_cons_of_mem
    rw [List.mem_filter]
    refine ⟨(am_a_mem E 0 L j x).mpr ⟨w, by simpa using e2, by omega, h3⟩, ?_⟩
    subst h3
    dsimp only
    rw [am_cat]
    simp only [Bool.and_eq_true, Bool.not_eq_true', beq_eq_false_iff_ne, Bool.and_eq_false_iff]
    refine ⟨e1, ?_⟩
    by_cases g : j + 1 = i
    · right
      cases hb : am_isL (some w) with
      | false => rfl
      | true => exact absurd ⟨g, hb⟩ e3
    · left; exact g
theorem am_st2_has {E : AE} {ls' : Array Slot} {nL : Nat} {L L' : List (Option AV)} {i : Nat} {v : AV} (h : lv_has ls' nL ((i, am_v E v) :: (am_a E 0 L).filter (fun q => !(q.1 == i) && (!(q.1 == i + 1) && !(q.1 + 1 == i && q.2.category == 2)))))
    (hL : ∀ (j : Nat) (w : AV), L'[j]? = some (some w) → (j = i ∧ w = v) ∨ (j ≠ i ∧ j ≠ i + 1 ∧ L[j]? = some (some w) ∧ ¬ (j + 1 = i ∧ am_isL (some w) = true))) : lv_has ls' nL (am_a E 0 L') := by
  refine ⟨h.1, h.2.1, fun q hq => h.2.2 q ?_⟩
  obtain ⟨j, x⟩ := q
  obtain ⟨w, h1, -, h3⟩ := (am_a_mem E 0 L' j x).mp hq
  rcases hL j w (by simpa using h1) with ⟨e1, e2⟩ | ⟨e1, e0, e2, e3⟩
  · subst e1; subst e2; subst h3; exact List.mem_cons_self
  · apply List.mem_cons_of_mem
    rw [List.mem_filter]
    refine ⟨(am_a_mem E 0 L j x).mpr ⟨w, by simpa using e2, by omega, h3⟩, ?_⟩
    subst h3
    dsimp only
    rw [am_cat]
    simp only [Bool.and_eq_true, Bool.not_eq_true', beq_eq_false_iff_ne, Bool.and_eq_false_iff]
    refine ⟨e1, e0, ?_⟩
    by_cases g : j + 1 = i
    · right
      cases hb : am_isL (some w) with
      | false => rfl
      | true => exact absurd ⟨g, hb⟩ e3
    · left; exact g
end
section
/-! what an instruction asks (handlers), and that the machine does it -/
def am_J (Y : List AL) (cl : List vw_C) (E : AE) (A : Nat → Prop) (p : Program) (l : Launch) (e : Env) (R : Room) (s : State) (m : MethodId) (args : Array Value) (below : List Frame) (meth : Method) (c : Code) (nL : Nat) (Q : State → Prop) : AJ :=
  fun pc L S h => ∀ (H : Heap) (locs : List Loc) (ls : Array Slot), va_P E.1 cl (am_w Y E h) H → va_D A (am_w Y E h) → va_S A s.heap H locs → lv_has ls nL (am_a E 0 L) → W p l e R s m args below meth c H locs 0 0 Q (F0 m pc ls (S.map (am_v E)))
def am_tys (E : AE) : List (ClassId × FieldType) := [(E.2.1.1, .int), (E.2.1.2.1, .long), (E.2.1.2.2, .boolean)]
/-- what a walk stands on -/
def am_C (Y : List AL) (cl : List vw_C) (E : AE) (A : Nat → Prop) (p : Program) (s : State) (m : MethodId) (args : Array Value) (meth : Method) (c : Code) (nL : Nat) (cc : ByteArray) (own : String) (Ts : List Cond) : Prop :=
  p.tables.exec = Jvm.exec ∧ c.code = cc ∧ c.maxLocals = nL ∧ s.vm.findClass own = some m.cls ∧ (∀ w ∈ Ts, w.before args s = true) ∧ va_K E.1 cl (am_tys E) s ∧ (∀ q, s.heap.size ≤ q → A q) ∧ (∀ k, k < Y.length → A (E.2.2 k)) ∧ meth.locks = false
def am_sd (G : AG) (J : AJ) (R : AR) (f : AD) (pc : Nat) : Prop := ∀ L S h, f G J R pc L S h → J pc L S h
def am_ic (a : Int) (n : Nat) : AD := fun _ J _ pc L S h => J (pc + n) L (.inl a :: S) h
def am_lc (a : Int) (n : Nat) : AD := fun _ J _ pc L S h => J (pc + n) L (.inr (.inl a) :: S) h
def am_ld (i n : Nat) : AD := fun _ J _ pc L S h => match L[i]? with
  | some (some v) => J (pc + n) L (v :: S) h
  | _ => False
def am_ild (i n : Nat) : AD := fun _ J _ pc L S h => match L[i]? with
  | some (some (.inl a)) => J (pc + n) L (.inl a :: S) h
  | _ => False
def am_lld (i n : Nat) : AD := fun _ J _ pc L S h => match L[i]? with
  | some (some (.inr (.inl a))) => J (pc + n) L (.inr (.inl a) :: S) h
  | _ => False
def am_ald (i n : Nat) : AD := fun _ J _ pc L S h => match L[i]? with
  | some (some (.inr (.inr a))) => J (pc + n) L (.inr (.inr a) :: S) h
  | _ => False
def am_ist (i n : Nat) : AD := fun _ J _ pc L S h => match S with
  | .inl a :: S => am_st (.inl a) i L (fun L' => J (pc + n) L' S h)
  | _ => False
def am_ast (i n : Nat) : AD := fun _ J _ pc L S h => match S with
  | .inr (.inr a) :: S => am_st (.inr (.inr a)) i L (fun L' => J (pc + n) L' S h)
  | _ => False
def am_lst (i n : Nat) : AD := fun _ J _ pc L S h => match S with
  | .inr (.inl a) :: S => am_st2 (.inr (.inl a)) i L (fun L' => J (pc + n) L' S h)
  | _ => False
def am_inc (i : Nat) (k : Int) : AD := fun _ J _ pc L S h => match L[i]? with
  | some (some (.inl a)) => am_st (.inl (a + k)) i L (fun L' => J (pc + 3) L' S h)
  | _ => False
def am_iadd : AD := fun _ J _ pc L S h => match S with
  | .inl b :: .inl a :: S => J (pc + 1) L (.inl (a + b) :: S) h
  | _ => False
def am_isub : AD := fun _ J _ pc L S h => match S with
  | .inl b :: .inl a :: S => J (pc + 1) L (.inl (a - b) :: S) h
  | _ => False
def am_imul : AD := fun _ J _ pc L S h => match S with
  | .inl b :: .inl a :: S => J (pc + 1) L (.inl (a * b) :: S) h
  | _ => False
def am_ladd : AD := fun _ J _ pc L S h => match S with
  | .inr (.inl b) :: .inr (.inl a) :: S => J (pc + 1) L (.inr (.inl (a + b)) :: S) h
  | _ => False
def am_lsub : AD := fun _ J _ pc L S h => match S with
  | .inr (.inl b) :: .inr (.inl a) :: S => J (pc + 1) L (.inr (.inl (a - b)) :: S) h
  | _ => False
def am_lmul : AD := fun _ J _ pc L S h => match S with
  | .inr (.inl b) :: .inr (.inl a) :: S => J (pc + 1) L (.inr (.inl (a * b)) :: S) h
  | _ => False
def am_idiv : AD := fun _ J _ pc L S h => match S with
  | .inl b :: .inl a :: S => (0 ≤ a ∧ a < 2147483648 ∧ 0 < b ∧ b < 2147483648) ∧ J (pc + 1) L (.inl (a / b) :: S) h
  | _ => False
def am_irem : AD := fun _ J _ pc L S h => match S with
  | .inl b :: .inl a :: S => (0 ≤ a ∧ a < 2147483648 ∧ 0 < b ∧ b < 2147483648) ∧ J (pc + 1) L (.inl (a % b) :: S) h
  | _ => False
def am_i2l : AD := fun _ J _ pc L S h => match S with
  | .inl a :: S => (-2147483648 ≤ a ∧ a < 2147483648) ∧ J (pc + 1) L (.inr (.inl a) :: S) h
  | _ => False
def am_dup : AD := fun _ J _ pc L S h => match S with
  | .inl a :: S => J (pc + 1) L (.inl a :: .inl a :: S) h
  | .inr (.inr a) :: S => J (pc + 1) L (.inr (.inr a) :: .inr (.inr a) :: S) h
  | _ => False
def am_goto (t : Nat) : AD := fun _ J _ _ L S h => J t L S h
/-- a branch: which of two numbers -/
def am_br (k : Nat) (a b : Int) (yes no : Prop) : Prop := match k with
  | 0 => (a = b → yes) ∧ (a ≠ b → no)
  | 1 => (a ≠ b → yes) ∧ (a = b → no)
  | 2 => (a < b → yes) ∧ (b ≤ a → no)
  | 3 => (b ≤ a → yes) ∧ (a < b → no)
  | 4 => (b < a → yes) ∧ (a ≤ b → no)
  | _ => (a ≤ b → yes) ∧ (b < a → no)
def am_if (k t : Nat) : AD := fun _ J _ pc L S h => match S with
  | .inl a :: S => (-2147483648 ≤ a ∧ a < 2147483648) ∧ am_br k a 0 (J t L S h) (J (pc + 3) L S h)
  | _ => False
def am_icmp (k t : Nat) : AD := fun _ J _ pc L S h => match S with
  | .inl b :: .inl a :: S => (-2147483648 ≤ a ∧ a < 2147483648 ∧ -2147483648 ≤ b ∧ b < 2147483648) ∧ am_br k a b (J t L S h) (J (pc + 3) L S h)
  | _ => False
/-- lcmp and the branch behind it -/
def am_lcmp (k t : Nat) : AD := fun _ J _ pc L S h => match S with
  | .inr (.inl b) :: .inr (.inl a) :: S => (-9223372036854775808 ≤ a ∧ a < 9223372036854775808 ∧ -9223372036854775808 ≤ b ∧ b < 9223372036854775808) ∧ am_br k a b (J t L S h) (J (pc + 4) L S h)
  | _ => False
def am_get (Y : List AL) (ci k : Nat) : AD := fun _ J _ pc L S h => match S with
  | .inr (.inr c) :: S => match Y[c]? with
    | some (.inl o) => match o.1 == ci, o.2[k]? with
      | true, some none => J (pc + 3) L (.inl (h c k) :: S) h
      | true, some (some r) => J (pc + 3) L (.inr (.inr r) :: S) h
      | _, _ => False
    | _ => False
  | _ => False
def am_put (Y : List AL) (ci k : Nat) : AD := fun _ J _ pc L S h => match S with
  | .inl v :: .inr (.inr c) :: S => match Y[c]? with
    | some (.inl o) => match o.1 == ci, o.2[k]? with
      | true, some none => J (pc + 3) L S (am_up h c k v)
      | _, _ => False
    | _ => False
  | _ => False
def am_putz (Y : List AL) (ci k : Nat) : AD := fun _ J _ pc L S h => match S with
  | .inl v :: .inr (.inr c) :: S => match Y[c]? with
    | some (.inl o) => match o.1 == ci, o.2[k]? with
      | true, some none => (v = 0 ∨ v = 1) ∧ J (pc + 3) L S (am_up h c k v)
      | _, _ => False
    | _ => False
  | _ => False
def am_iald (Y : List AL) : AD := fun _ J _ pc L S h => match S with
  | .inl i :: .inr (.inr c) :: S => match Y[c]? with
    | some (.inr (0, n)) => (0 ≤ i ∧ i < (n : Int)) ∧ J (pc + 1) L (.inl (h c i.toNat) :: S) h
    | _ => False
  | _ => False
def am_zald (Y : List AL) : AD := fun _ J _ pc L S h => match S with
  | .inl i :: .inr (.inr c) :: S => match Y[c]? with
    | some (.inr (2, n)) => (0 ≤ i ∧ i < (n : Int)) ∧ J (pc + 1) L (.inl (h c i.toNat) :: S) h
    | _ => False
  | _ => False
def am_lald (Y : List AL) : AD := fun _ J _ pc L S h => match S with
  | .inl i :: .inr (.inr c) :: S => match Y[c]? with
    | some (.inr (1, n)) => (0 ≤ i ∧ i < (n : Int)) ∧ J (pc + 1) L (.inr (.inl (h c i.toNat)) :: S) h
    | _ => False
  | _ => False
def am_iast (Y : List AL) : AD := fun _ J _ pc L S h => match S with
  | .inl v :: .inl i :: .inr (.inr c) :: S => match Y[c]? with
    | some (.inr (0, n)) => (0 ≤ i ∧ i < (n : Int)) ∧ J (pc + 1) L S (am_up h c i.toNat v)
    | _ => False
  | _ => False
def am_zast (Y : List AL) : AD := fun _ J _ pc L S h => match S with
  | .inl v :: .inl i :: .inr (.inr c) :: S => match Y[c]? with
    | some (.inr (2, n)) => (0 ≤ i ∧ i < (n : Int) ∧ (v = 0 ∨ v = 1)) ∧ J (pc + 1) L S (am_up h c i.toNat v)
    | _ => False
  | _ => False
def am_last (Y : List AL) : AD := fun _ J _ pc L S h => match S with
  | .inr (.inl v) :: .inl i :: .inr (.inr c) :: S => match Y[c]? with
    | some (.inr (1, n)) => (0 ≤ i ∧ i < (n : Int)) ∧ J (pc + 1) L S (am_up h c i.toNat v)
    | _ => False
  | _ => False
def am_ret : AD := fun _ _ R _ _ S h => match S with
  | [.inl v] => R (some (.inl v)) h
  | _ => False
def am_zret : AD := fun _ _ R _ _ S h => match S with
  | [.inl v] => (v = 0 ∨ v = 1) ∧ R (some (.inl v)) h
  | _ => False
def am_lret : AD := fun _ _ R _ _ S h => match S with
  | [.inr (.inl v)] => R (some (.inr (.inl v))) h
  | _ => False
def am_vret : AD := fun _ _ R _ _ S h => match S with
  | [] => R none h
  | _ => False
section HA
variable {Y : List AL} {cl : List vw_C} {E : AE} {A : Nat → Prop} {p : Program} {l : Launch} {e : Env} {R : Room} {s : State} {m : MethodId} {args : Array Value} {below : List Frame} {meth : Method} {c : Code} {nL : Nat} {Q : State → Prop} {cc : ByteArray} {own : String} {Ts : List Cond} {G : AG} {Rt : AR} {pc : Nat}
theorem am_iconst_ok (X : am_C Y cl E A p s m args meth c nL cc own Ts) {n : Int} (hd : decode cc pc = .ok (.iconst n, 1)) : am_sd G (am_J Y cl E A p l e R s m args below meth c nL Q) Rt (am_ic n 1) pc := by
  intro L S h hk H locs ls hP hD hS hl
  exact lv_iconst X.1 X.2.1 hd rfl (hk H locs ls hP hD hS hl)
theorem am_bipush_ok (X : am_C Y cl E A p s m args meth c nL cc own Ts) {n : Int} (hd : decode cc pc = .ok (.bipush n, 2)) (hn : (Int8.ofInt n).toInt32 = Int32.ofInt n) : am_sd G (am_J Y cl E A p l e R s m args below meth c nL Q) Rt (am_ic n 2) pc := by
  intro L S h hk H locs ls hP hD hS hl
  exact lv_bipush X.1 X.2.1 hd hn (hk H locs ls hP hD hS hl)
theorem am_sipush_ok (X : am_C Y cl E A p s m args meth c nL cc own Ts) {n : Int} (hd : decode cc pc = .ok (.sipush n, 3)) (hn : (Int16.ofInt n).toInt32 = Int32.ofInt n) : am_sd G (am_J Y cl E A p l e R s m args below meth c nL Q) Rt (am_ic n 3) pc := by
  intro L S h hk H locs ls hP hD hS hl
  exact lv_sipush X.1 X.2.1 hd hn (hk H locs ls hP hD hS hl)
theorem am_ldc_ok (X : am_C Y cl E A p s m args meth c nL cc own Ts) {a : Int} {i : Nat} (hd : decode cc pc = .ok (.ldc i, 2)) (hw : Cond.constant own i (Int32.ofInt a) ∈ Ts) : am_sd G (am_J Y cl E A p l e R s m args below meth c nL Q) Rt (am_ic a 2) pc := by
  intro L S h hk H locs ls hP hD hS hl
  exact lv_ldc X.1 X.2.1 X.2.2.2.1 (X.2.2.2.2.1 _ hw) hd (hk H locs ls hP hD hS hl)
theorem am_ldc2_ok (X : am_C Y cl E A p s m args meth c nL cc own Ts) {a : Int} {i : Nat} (hd : decode cc pc = .ok (.ldc2_w i, 3)) (hw : Cond.constantLong own i (Int64.ofInt a) ∈ Ts) : am_sd G (am_J Y cl E A p l e R s m args below meth c nL Q) Rt (am_lc a 3) pc := by
  intro L S h hk H locs ls hP hD hS hl
  exact lv_ldc2 X.1 X.2.1 X.2.2.2.1 (X.2.2.2.2.1 _ hw) hd (hk H locs ls hP hD hS hl)
theorem am_lconst_ok (X : am_C Y cl E A p s m args meth c nL cc own Ts) {n : Fin 2} (hd : decode cc pc = .ok (.lconst n, 1)) : am_sd G (am_J Y cl E A p l e R s m args below meth c nL Q) Rt (am_lc (n.val : Int) 1) pc := by
  intro L S h hk H locs ls hP hD hS hl
  refine lv_lconst (v := Int64.ofInt (n.val : Int)) X.1 X.2.1 hd ?_ (hk H locs ls hP hD hS hl)
  match n with
  | 0 => rfl
  | 1 => rfl
theorem am_iload_n_ok (X : am_C Y cl E A p s m args meth c nL cc own Ts) {k : Fin 4} (hd : decode cc pc = .ok (.iload_n k, 1)) : am_sd G (am_J Y cl E A p l e R s m args below meth c nL Q) Rt (am_ild k.val 1) pc := by
  intro L S h hk H locs ls hP hD hS hl
  unfold am_ild at hk
  split at hk
  · rename_i a ha
    exact lv_iload_n X.1 X.2.1 hd rfl (am_l_at hl ha) (hk H locs ls hP hD hS hl)
  · exact hk.elim
theorem am_iload_ok (X : am_C Y cl E A p s m args meth c nL cc own Ts) {k : Nat} (hd : decode cc pc = .ok (.iload k, 2)) : am_sd G (am_J Y cl E A p l e R s m args below meth c nL Q) Rt (am_ild k 2) pc := by
  intro L S h hk H locs ls hP hD hS hl
  unfold am_ild at hk
  split at hk
  · rename_i a ha
    exact lv_iload X.1 X.2.1 hd (am_l_at hl ha) (hk H locs ls hP hD hS hl)
  · exact hk.elim
theorem am_lload_n_ok (X : am_C Y cl E A p s m args meth c nL cc own Ts) {k : Fin 4} (hd : decode cc pc = .ok (.lload_n k, 1)) : am_sd G (am_J Y cl E A p l e R s m args below meth c nL Q) Rt (am_lld k.val 1) pc := by
  intro L S h hk H locs ls hP hD hS hl
  unfold am_lld at hk
  split at hk
  · rename_i a ha
    exact lv_lload_n X.1 X.2.1 hd rfl (am_l_at hl ha) (hk H locs ls hP hD hS hl)
  · exact hk.elim
theorem am_lload_ok (X : am_C Y cl E A p s m args meth c nL cc own Ts) {k : Nat} (hd : decode cc pc = .ok (.lload k, 2)) : am_sd G (am_J Y cl E A p l e R s m args below meth c nL Q) Rt (am_lld k 2) pc := by
  intro L S h hk H locs ls hP hD hS hl
  unfold am_lld at hk
  split at hk
  · rename_i a ha
    exact lv_lload X.1 X.2.1 hd (am_l_at hl ha) (hk H locs ls hP hD hS hl)
  · exact hk.elim
theorem am_aload_n_ok (X : am_C Y cl E A p s m args meth c nL cc own Ts) {k : Fin 4} (hd : decode cc pc = .ok (.aload_n k, 1)) : am_sd G (am_J Y cl E A p l e R s m args below meth c nL Q) Rt (am_ald k.val 1) pc := by
  intro L S h hk H locs ls hP hD hS hl
  unfold am_ald at hk
  split at hk
  · rename_i a ha
    exact lv_aload_n X.1 X.2.1 hd rfl (am_l_at hl ha) (hk H locs ls hP hD hS hl)
  · exact hk.elim
theorem am_aload_ok (X : am_C Y cl E A p s m args meth c nL cc own Ts) {k : Nat} (hd : decode cc pc = .ok (.aload k, 2)) : am_sd G (am_J Y cl E A p l e R s m args below meth c nL Q) Rt (am_ald k 2) pc := by
  intro L S h hk H locs ls hP hD hS hl
  unfold am_ald at hk
  split at hk
  · rename_i a ha
    exact lv_aload X.1 X.2.1 hd (am_l_at hl ha) (hk H locs ls hP hD hS hl)
  · exact hk.elim
theorem am_istore_n_ok (X : am_C Y cl E A p s m args meth c nL cc own Ts) {k : Fin 4} (hn : k.val < nL) (hd : decode cc pc = .ok (.istore_n k, 1)) : am_sd G (am_J Y cl E A p l e R s m args below meth c nL Q) Rt (am_ist k.val 1) pc := by
  intro L S h hk H locs ls hP hD hS hl
  unfold am_ist at hk
  split at hk
  · obtain ⟨L', h1, -, -, h4⟩ := am_st_ok _ _ _ _ hk
    exact lv_istore_n X.1 X.2.1 hd rfl hl hn rfl (fun ls' hl' => h1 H locs ls' hP hD hS (am_st_has (v := .inl _) hl' h4))
  · exact hk.elim
theorem am_istore_ok (X : am_C Y cl E A p s m args meth c nL cc own Ts) {k : Nat} (hn : k < nL) (hd : decode cc pc = .ok (.istore k, 2)) : am_sd G (am_J Y cl E A p l e R s m args below meth c nL Q) Rt (am_ist k 2) pc := by
  intro L S h hk H locs ls hP hD hS hl
  unfold am_ist at hk
  split at hk
  · obtain ⟨L', h1, -, -, h4⟩ := am_st_ok _ _ _ _ hk
    exact lv_istore X.1 X.2.1 hd hl hn rfl (fun ls' hl' => h1 H locs ls' hP hD hS (am_st_has (v := .inl _) hl' h4))
  · exact hk.elim
theorem am_astore_n_ok (X : am_C Y cl E A p s m args meth c nL cc own Ts) {k : Fin 4} (hn : k.val < nL) (hd : decode cc pc = .ok (.astore_n k, 1)) : am_sd G (am_J Y cl E A p l e R s m args below meth c nL Q) Rt (am_ast k.val 1) pc := by
  intro L S h hk H locs ls hP hD hS hl
  unfold am_ast at hk
  split at hk
  · obtain ⟨L', h1, -, -, h4⟩ := am_st_ok _ _ _ _ hk
    exact lv_astore_n X.1 X.2.1 hd rfl hl hn rfl (fun ls' hl' => h1 H locs ls' hP hD hS (am_st_has (v := .inr (.inr _)) hl' h4))
  · exact hk.elim
theorem am_astore_ok (X : am_C Y cl E A p s m args meth c nL cc own Ts) {k : Nat} (hn : k < nL) (hd : decode cc pc = .ok (.astore k, 2)) : am_sd G (am_J Y cl E A p l e R s m args below meth c nL Q) Rt (am_ast k 2) pc := by
  intro L S h hk H locs ls hP hD hS hl
  unfold am_ast at hk
  split at hk
  · obtain ⟨L', h1, -, -, h4⟩ := am_st_ok _ _ _ _ hk
    exact lv_astore X.1 X.2.1 hd hl hn rfl (fun ls' hl' => h1 H locs ls' hP hD hS (am_st_has (v := .inr (.inr _)) hl' h4))
  · exact hk.elim
theorem am_lstore_n_ok (X : am_C Y cl E A p s m args meth c nL cc own Ts) {k : Fin 4} (hn : k.val + 1 < nL) (hd : decode cc pc = .ok (.lstore_n k, 1)) : am_sd G (am_J Y cl E A p l e R s m args below meth c nL Q) Rt (am_lst k.val 1) pc := by
  intro L S h hk H locs ls hP hD hS hl
  unfold am_lst at hk
  split at hk
  · obtain ⟨L', h1, -, -, h4⟩ := am_st2_ok _ _ _ _ hk
    exact lv_lstore_n X.1 X.2.1 hd rfl hl hn rfl (fun ls' hl' => h1 H locs ls' hP hD hS (am_st2_has (v := .inr (.inl _)) hl' h4))
  · exact hk.elim
theorem am_lstore_ok (X : am_C Y cl E A p s m args meth c nL cc own Ts) {k : Nat} (hn : k + 1 < nL) (hd : decode cc pc = .ok (.lstore k, 2)) : am_sd G (am_J Y cl E A p l e R s m args below meth c nL Q) Rt (am_lst k 2) pc := by
  intro L S h hk H locs ls hP hD hS hl
  unfold am_lst at hk
  split at hk
  · obtain ⟨L', h1, -, -, h4⟩ := am_st2_ok _ _ _ _ hk
    exact lv_lstore X.1 X.2.1 hd hl hn rfl (fun ls' hl' => h1 H locs ls' hP hD hS (am_st2_has (v := .inr (.inl _)) hl' h4))
  · exact hk.elim
theorem am_iinc_ok (X : am_C Y cl E A p s m args meth c nL cc own Ts) {i : Nat} {n : Int} (hn : i < nL) (hd : decode cc pc = .ok (.iinc i n, 3)) : am_sd G (am_J Y cl E A p l e R s m args below meth c nL Q) Rt (am_inc i n) pc := by
  intro L S h hk H locs ls hP hD hS hl
  unfold am_inc at hk
  split at hk
  · rename_i a ha
    obtain ⟨L', h1, -, -, h4⟩ := am_st_ok _ _ _ _ hk
    obtain ⟨j, hj⟩ := List.getElem?_of_mem ((am_a_mem E 0 L i (am_v E (.inl a))).mpr ⟨.inl a, by simpa using ha, by omega, rfl⟩)
    exact lv_iinc X.1 X.2.1 hd hl hj (nu_add a n) hn rfl (fun ls' hl' => h1 H locs ls' hP hD hS (am_st_has (v := .inl _) hl' h4))
  · exact hk.elim
theorem am_iadd_ok (X : am_C Y cl E A p s m args meth c nL cc own Ts) (hd : decode cc pc = .ok (.iadd, 1)) : am_sd G (am_J Y cl E A p l e R s m args below meth c nL Q) Rt am_iadd pc := by
  intro L S h hk H locs ls hP hD hS hl
  unfold am_iadd at hk
  split at hk
  · rename_i b a S
    refine lv_iadd X.1 X.2.1 hd ?_
    rw [nu_add]
    exact hk H locs ls hP hD hS hl
  · exact hk.elim
theorem am_isub_ok (X : am_C Y cl E A p s m args meth c nL cc own Ts) (hd : decode cc pc = .ok (.isub, 1)) : am_sd G (am_J Y cl E A p l e R s m args below meth c nL Q) Rt am_isub pc := by
  intro L S h hk H locs ls hP hD hS hl
  unfold am_isub at hk
  split at hk
  · refine lv_isub X.1 X.2.1 hd ?_
    rw [nu_sub]
    exact hk H locs ls hP hD hS hl
  · exact hk.elim
theorem am_imul_ok (X : am_C Y cl E A p s m args meth c nL cc own Ts) (hd : decode cc pc = .ok (.imul, 1)) : am_sd G (am_J Y cl E A p l e R s m args below meth c nL Q) Rt am_imul pc := by
  intro L S h hk H locs ls hP hD hS hl
  unfold am_imul at hk
  split at hk
  · refine lv_imul X.1 X.2.1 hd ?_
    rw [nu_mul]
    exact hk H locs ls hP hD hS hl
  · exact hk.elim
theorem am_ladd_ok (X : am_C Y cl E A p s m args meth c nL cc own Ts) (hd : decode cc pc = .ok (.ladd, 1)) : am_sd G (am_J Y cl E A p l e R s m args below meth c nL Q) Rt am_ladd pc := by
  intro L S h hk H locs ls hP hD hS hl
  unfold am_ladd at hk
  split at hk
  · refine lv_ladd X.1 X.2.1 hd ?_
    rw [nu_ladd]
    exact hk H locs ls hP hD hS hl
  · exact hk.elim
theorem am_lsub_ok (X : am_C Y cl E A p s m args meth c nL cc own Ts) (hd : decode cc pc = .ok (.lsub, 1)) : am_sd G (am_J Y cl E A p l e R s m args below meth c nL Q) Rt am_lsub pc := by
  intro L S h hk H locs ls hP hD hS hl
  unfold am_lsub at hk
  split at hk
  · refine lv_lsub X.1 X.2.1 hd ?_
    rw [nu_lsub]
    exact hk H locs ls hP hD hS hl
  · exact hk.elim
theorem am_lmul_ok (X : am_C Y cl E A p s m args meth c nL cc own Ts) (hd : decode cc pc = .ok (.lmul, 1)) : am_sd G (am_J Y cl E A p l e R s m args below meth c nL Q) Rt am_lmul pc := by
  intro L S h hk H locs ls hP hD hS hl
  unfold am_lmul at hk
  split at hk
  · refine lv_lmul X.1 X.2.1 hd ?_
    rw [nu_lmul]
    exact hk H locs ls hP hD hS hl
  · exact hk.elim
theorem nu_ne0 {b : Int} (b1 : 0 < b) (b2 : b < 2147483648) : ¬ Int32.ofInt b = 0 := fun h => by
  have := (nu_eq (a := b) (b := 0) (by omega) b2 (by omega) (by omega)).mp h
  omega
theorem am_idiv_ok (X : am_C Y cl E A p s m args meth c nL cc own Ts) (hd : decode cc pc = .ok (.idiv, 1)) : am_sd G (am_J Y cl E A p l e R s m args below meth c nL Q) Rt am_idiv pc := by
  intro L S h hk H locs ls hP hD hS hl
  unfold am_idiv at hk
  split at hk
  · obtain ⟨⟨h1, h2, h3, h4⟩, hk⟩ := hk
    refine lv_idiv X.1 X.2.1 hd (nu_ne0 h3 h4) ?_
    rw [nu_div h1 h2 h3 h4]
    exact hk H locs ls hP hD hS hl
  · exact hk.elim
theorem am_irem_ok (X : am_C Y cl E A p s m args meth c nL cc own Ts) (hd : decode cc pc = .ok (.irem, 1)) : am_sd G (am_J Y cl E A p l e R s m args below meth c nL Q) Rt am_irem pc := by
  intro L S h hk H locs ls hP hD hS hl
  unfold am_irem at hk
  split at hk
  · obtain ⟨⟨h1, h2, h3, h4⟩, hk⟩ := hk
    refine lv_irem X.1 X.2.1 hd (nu_ne0 h3 h4) ?_
    rw [nu_rem h1 h2 h3 h4]
    exact hk H locs ls hP hD hS hl
  · exact hk.elim
theorem am_i2l_ok (X : am_C Y cl E A p s m args meth c nL cc own Ts) (hd : decode cc pc = .ok (.i2l, 1)) : am_sd G (am_J Y cl E A p l e R s m args below meth c nL Q) Rt am_i2l pc := by
  intro L S h hk H locs ls hP hD hS hl
  unfold am_i2l at hk
  split at hk
  · obtain ⟨⟨h1, h2⟩, hk⟩ := hk
    exact lv_i2l X.1 X.2.1 hd (nu_i2l h1 h2) (hk H locs ls hP hD hS hl)
  · exact hk.elim
theorem am_dup_ok (X : am_C Y cl E A p s m args meth c nL cc own Ts) (hd : decode cc pc = .ok (.dup, 1)) : am_sd G (am_J Y cl E A p l e R s m args below meth c nL Q) Rt am_dup pc := by
  intro L S h hk H locs ls hP hD hS hl
  unfold am_dup at hk
  split at hk
  · exact lv_dup X.1 X.2.1 hd rfl (hk H locs ls hP hD hS hl)
  · exact lv_dup X.1 X.2.1 hd rfl (hk H locs ls hP hD hS hl)
  · exact hk.elim
theorem am_goto_ok (X : am_C Y cl E A p s m args meth c nL cc own Ts) {off : Int} {t : Nat} (hd : decode cc pc = .ok (.goto off, 3)) (ht : (pc : Int) + off = (t : Int)) : am_sd G (am_J Y cl E A p l e R s m args below meth c nL Q) Rt (am_goto t) pc := by
  intro L S h hk H locs ls hP hD hS hl
  exact lv_goto X.1 X.2.1 hd ht (hk H locs ls hP hD hS hl)
end HA
end
section
/-! branches, fields, arrays -/
section HB
variable {Y : List AL} {cl : List vw_C} {E : AE} {A : Nat → Prop} {p : Program} {l : Launch} {e : Env} {R : Room} {s : State} {m : MethodId} {args : Array Value} {below : List Frame} {meth : Method} {c : Code} {nL : Nat} {Q : State → Prop} {cc : ByteArray} {own : String} {Ts : List Cond} {G : AG} {Rt : AR} {pc : Nat}
theorem am_if_eq_ok (X : am_C Y cl E A p s m args meth c nL cc own Ts) {off : Int} {t : Nat} (hd : decode cc pc = .ok (.ifCond .eq off, 3)) (ht : (pc : Int) + off = (t : Int)) : am_sd G (am_J Y cl E A p l e R s m args below meth c nL Q) Rt (am_if 0 t) pc := by
  intro L S h hk H locs ls hP hD hS hl
  unfold am_if at hk
  split at hk
  · rename_i a S
    obtain ⟨⟨h1, h2⟩, hk⟩ := hk
    exact lv_if_eq X.1 X.2.1 hd ht (fun q => hk.1 ((nu_eq (a := a) (b := 0) h1 h2 (by omega) (by omega)).mp q) H locs ls hP hD hS hl) (fun q => hk.2 (fun z => q ((nu_eq (a := a) (b := 0) h1 h2 (by omega) (by omega)).mpr z)) H locs ls hP hD hS hl)
  · exact hk.elim
theorem am_icmp_eq_ok (X : am_C Y cl E A p s m args meth c nL cc own Ts) {off : Int} {t : Nat} (hd : decode cc pc = .ok (.if_icmp .eq off, 3)) (ht : (pc : Int) + off = (t : Int)) : am_sd G (am_J Y cl E A p l e R s m args below meth c nL Q) Rt (am_icmp 0 t) pc := by
  intro L S h hk H locs ls hP hD hS hl
  unfold am_icmp at hk
  split at hk
  · rename_i b a S
    obtain ⟨⟨h1, h2, h3, h4⟩, hk⟩ := hk
    exact lv_icmp_eq X.1 X.2.1 hd ht (fun q => hk.1 ((nu_eq (a := a) (b := b) h1 h2 h3 h4).mp q) H locs ls hP hD hS hl) (fun q => hk.2 (fun z => q ((nu_eq (a := a) (b := b) h1 h2 h3 h4).mpr z)) H locs ls hP hD hS hl)
  · exact hk.elim
theorem am_lcmp_eq_ok (X : am_C Y cl E A p s m args meth c nL cc own Ts) {off : Int} {t : Nat} (hd : decode cc pc = .ok (.lcmp, 1)) (hd2 : decode cc (pc + 1) = .ok (.ifCond .eq off, 3)) (ht : ((pc + 1 : Nat) : Int) + off = (t : Int)) : am_sd G (am_J Y cl E A p l e R s m args below meth c nL Q) Rt (am_lcmp 0 t) pc := by
  intro L S h hk H locs ls hP hD hS hl
  unfold am_lcmp at hk
  split at hk
  · rename_i b a S
    obtain ⟨⟨h1, h2, h3, h4⟩, hk⟩ := hk
    refine W.lcmp X.1 X.2.1 hd ?_
    rw [nu_cmp h1 h2 h3 h4]
    generalize hv : (if b < a then (1 : Int) else if a = b then 0 else -1) = v
    have hr : -2147483648 ≤ v ∧ v < 2147483648 := by omega
    exact lv_if_eq X.1 X.2.1 hd2 ht (fun q => hk.1 (by have q2 := (nu_eq (b := 0) hr.1 hr.2 (by omega) (by omega)).mp q; omega) H locs ls hP hD hS hl) (fun q => hk.2 (by have q2 := mt (nu_eq (b := 0) hr.1 hr.2 (by omega) (by omega)).mpr q; omega) H locs ls hP hD hS hl)
  · exact hk.elim
theorem am_if_ne_ok (X : am_C Y cl E A p s m args meth c nL cc own Ts) {off : Int} {t : Nat} (hd : decode cc pc = .ok (.ifCond .ne off, 3)) (ht : (pc : Int) + off = (t : Int)) : am_sd G (am_J Y cl E A p l e R s m args below meth c nL Q) Rt (am_if 1 t) pc := by
  intro L S h hk H locs ls hP hD hS hl
  unfold am_if at hk
  split at hk
  · rename_i a S
    obtain ⟨⟨h1, h2⟩, hk⟩ := hk
    exact lv_if_ne X.1 X.2.1 hd ht (fun q => hk.1 (fun z => q ((nu_eq (a := a) (b := 0) h1 h2 (by omega) (by omega)).mpr z)) H locs ls hP hD hS hl) (fun q => hk.2 ((nu_eq (a := a) (b := 0) h1 h2 (by omega) (by omega)).mp q) H locs ls hP hD hS hl)
  · exact hk.elim
theorem am_icmp_ne_ok (X : am_C Y cl E A p s m args meth c nL cc own Ts) {off : Int} {t : Nat} (hd : decode cc pc = .ok (.if_icmp .ne off, 3)) (ht : (pc : Int) + off = (t : Int)) : am_sd G (am_J Y cl E A p l e R s m args below meth c nL Q) Rt (am_icmp 1 t) pc := by
  intro L S h hk H locs ls hP hD hS hl
  unfold am_icmp at hk
  split at hk
  · rename_i b a S
    obtain ⟨⟨h1, h2, h3, h4⟩, hk⟩ := hk
    exact lv_icmp_ne X.1 X.2.1 hd ht (fun q => hk.1 (fun z => q ((nu_eq (a := a) (b := b) h1 h2 h3 h4).mpr z)) H locs ls hP hD hS hl) (fun q => hk.2 ((nu_eq (a := a) (b := b) h1 h2 h3 h4).mp q) H locs ls hP hD hS hl)
  · exact hk.elim
theorem am_lcmp_ne_ok (X : am_C Y cl E A p s m args meth c nL cc own Ts) {off : Int} {t : Nat} (hd : decode cc pc = .ok (.lcmp, 1)) (hd2 : decode cc (pc + 1) = .ok (.ifCond .ne off, 3)) (ht : ((pc + 1 : Nat) : Int) + off = (t : Int)) : am_sd G (am_J Y cl E A p l e R s m args below meth c nL Q) Rt (am_lcmp 1 t) pc := by
  intro L S h hk H locs ls hP hD hS hl
  unfold am_lcmp at hk
  split at hk
  · rename_i b a S
    obtain ⟨⟨h1, h2, h3, h4⟩, hk⟩ := hk
    refine W.lcmp X.1 X.2.1 hd ?_
    rw [nu_cmp h1 h2 h3 h4]
    generalize hv : (if b < a then (1 : Int) else if a = b then 0 else -1) = v
    have hr : -2147483648 ≤ v ∧ v < 2147483648 := by omega
    exact lv_if_ne X.1 X.2.1 hd2 ht (fun q => hk.1 (by have q2 := mt (nu_eq (b := 0) hr.1 hr.2 (by omega) (by omega)).mpr q; omega) H locs ls hP hD hS hl) (fun q => hk.2 (by have q2 := (nu_eq (b := 0) hr.1 hr.2 (by omega) (by omega)).mp q; omega) H locs ls hP hD hS hl)
  · exact hk.elim
theorem am_if_lt_ok (X : am_C Y cl E A p s m args meth c nL cc own Ts) {off : Int} {t : Nat} (hd : decode cc pc = .ok (.ifCond .lt off, 3)) (ht : (pc : Int) + off = (t : Int)) : am_sd G (am_J Y cl E A p l e R s m args below meth c nL Q) Rt (am_if 2 t) pc := by
  intro L S h hk H locs ls hP hD hS hl
  unfold am_if at hk
  split at hk
  · rename_i a S
    obtain ⟨⟨h1, h2⟩, hk⟩ := hk
    exact lv_if_lt X.1 X.2.1 hd ht (fun q => hk.1 ((nu_lt (a := a) (b := 0) h1 h2 (by omega) (by omega)).mp q) H locs ls hP hD hS hl) (fun q => hk.2 (Int.not_lt.mp (fun z => q ((nu_lt (a := a) (b := 0) h1 h2 (by omega) (by omega)).mpr z))) H locs ls hP hD hS hl)
  · exact hk.elim
theorem am_icmp_lt_ok (X : am_C Y cl E A p s m args meth c nL cc own Ts) {off : Int} {t : Nat} (hd : decode cc pc = .ok (.if_icmp .lt off, 3)) (ht : (pc : Int) + off = (t : Int)) : am_sd G (am_J Y cl E A p l e R s m args below meth c nL Q) Rt (am_icmp 2 t) pc := by
  intro L S h hk H locs ls hP hD hS hl
  unfold am_icmp at hk
  split at hk
  · rename_i b a S
    obtain ⟨⟨h1, h2, h3, h4⟩, hk⟩ := hk
    exact lv_icmp_lt X.1 X.2.1 hd ht (fun q => hk.1 ((nu_lt (a := a) (b := b) h1 h2 h3 h4).mp q) H locs ls hP hD hS hl) (fun q => hk.2 (Int.not_lt.mp (fun z => q ((nu_lt (a := a) (b := b) h1 h2 h3 h4).mpr z))) H locs ls hP hD hS hl)
  · exact hk.elim
theorem am_lcmp_lt_ok (X : am_C Y cl E A p s m args meth c nL cc own Ts) {off : Int} {t : Nat} (hd : decode cc pc = .ok (.lcmp, 1)) (hd2 : decode cc (pc + 1) = .ok (.ifCond .lt off, 3)) (ht : ((pc + 1 : Nat) : Int) + off = (t : Int)) : am_sd G (am_J Y cl E A p l e R s m args below meth c nL Q) Rt (am_lcmp 2 t) pc := by
  intro L S h hk H locs ls hP hD hS hl
  unfold am_lcmp at hk
  split at hk
  · rename_i b a S
    obtain ⟨⟨h1, h2, h3, h4⟩, hk⟩ := hk
    refine W.lcmp X.1 X.2.1 hd ?_
    rw [nu_cmp h1 h2 h3 h4]
    generalize hv : (if b < a then (1 : Int) else if a = b then 0 else -1) = v
    have hr : -2147483648 ≤ v ∧ v < 2147483648 := by omega
    exact lv_if_lt X.1 X.2.1 hd2 ht (fun q => hk.1 (by have q2 := (nu_lt (b := 0) hr.1 hr.2 (by omega) (by omega)).mp q; omega) H locs ls hP hD hS hl) (fun q => hk.2 (by have q2 := mt (nu_lt (b := 0) hr.1 hr.2 (by omega) (by omega)).mpr q; omega) H locs ls hP hD hS hl)
  · exact hk.elim
theorem am_if_ge_ok (X : am_C Y cl E A p s m args meth c nL cc own Ts) {off : Int} {t : Nat} (hd : decode cc pc = .ok (.ifCond .ge off, 3)) (ht : (pc : Int) + off = (t : Int)) : am_sd G (am_J Y cl E A p l e R s m args below meth c nL Q) Rt (am_if 3 t) pc := by
  intro L S h hk H locs ls hP hD hS hl
  unfold am_if at hk
  split at hk
  · rename_i a S
    obtain ⟨⟨h1, h2⟩, hk⟩ := hk
    exact lv_if_ge X.1 X.2.1 hd ht (fun q => hk.1 ((nu_le (a := 0) (b := a) (by omega) (by omega) h1 h2).mp q) H locs ls hP hD hS hl) (fun q => hk.2 (Int.not_le.mp (fun z => q ((nu_le (a := 0) (b := a) (by omega) (by omega) h1 h2).mpr z))) H locs ls hP hD hS hl)
  · exact hk.elim
theorem am_icmp_ge_ok (X : am_C Y cl E A p s m args meth c nL cc own Ts) {off : Int} {t : Nat} (hd : decode cc pc = .ok (.if_icmp .ge off, 3)) (ht : (pc : Int) + off = (t : Int)) : am_sd G (am_J Y cl E A p l e R s m args below meth c nL Q) Rt (am_icmp 3 t) pc := by
  intro L S h hk H locs ls hP hD hS hl
  unfold am_icmp at hk
  split at hk
  · rename_i b a S
    obtain ⟨⟨h1, h2, h3, h4⟩, hk⟩ := hk
    exact lv_icmp_ge X.1 X.2.1 hd ht (fun q => hk.1 ((nu_le (a := b) (b := a) h3 h4 h1 h2).mp q) H locs ls hP hD hS hl) (fun q => hk.2 (Int.not_le.mp (fun z => q ((nu_le (a := b) (b := a) h3 h4 h1 h2).mpr z))) H locs ls hP hD hS hl)
  · exact hk.elim
theorem am_lcmp_ge_ok (X : am_C Y cl E A p s m args meth c nL cc own Ts) {off : Int} {t : Nat} (hd : decode cc pc = .ok (.lcmp, 1)) (hd2 : decode cc (pc + 1) = .ok (.ifCond .ge off, 3)) (ht : ((pc + 1 : Nat) : Int) + off = (t : Int)) : am_sd G (am_J Y cl E A p l e R s m args below meth c nL Q) Rt (am_lcmp 3 t) pc := by
  intro L S h hk H locs ls hP hD hS hl
  unfold am_lcmp at hk
  split at hk
  · rename_i b a S
    obtain ⟨⟨h1, h2, h3, h4⟩, hk⟩ := hk
    refine W.lcmp X.1 X.2.1 hd ?_
    rw [nu_cmp h1 h2 h3 h4]
    generalize hv : (if b < a then (1 : Int) else if a = b then 0 else -1) = v
    have hr : -2147483648 ≤ v ∧ v < 2147483648 := by omega
    exact lv_if_ge X.1 X.2.1 hd2 ht (fun q => hk.1 (by have q2 := (nu_le (a := 0) (by omega) (by omega) hr.1 hr.2).mp q; omega) H locs ls hP hD hS hl) (fun q => hk.2 (by have q2 := mt (nu_le (a := 0) (by omega) (by omega) hr.1 hr.2).mpr q; omega) H locs ls hP hD hS hl)
  · exact hk.elim
theorem am_if_gt_ok (X : am_C Y cl E A p s m args meth c nL cc own Ts) {off : Int} {t : Nat} (hd : decode cc pc = .ok (.ifCond .gt off, 3)) (ht : (pc : Int) + off = (t : Int)) : am_sd G (am_J Y cl E A p l e R s m args below meth c nL Q) Rt (am_if 4 t) pc := by
  intro L S h hk H locs ls hP hD hS hl
  unfold am_if at hk
  split at hk
  · rename_i a S
    obtain ⟨⟨h1, h2⟩, hk⟩ := hk
    exact lv_if_gt X.1 X.2.1 hd ht (fun q => hk.1 ((nu_lt (a := 0) (b := a) (by omega) (by omega) h1 h2).mp q) H locs ls hP hD hS hl) (fun q => hk.2 (Int.not_lt.mp (fun z => q ((nu_lt (a := 0) (b := a) (by omega) (by omega) h1 h2).mpr z))) H locs ls hP hD hS hl)
  · exact hk.elim
theorem am_icmp_gt_ok (X : am_C Y cl E A p s m args meth c nL cc own Ts) {off : Int} {t : Nat} (hd : decode cc pc = .ok (.if_icmp .gt off, 3)) (ht : (pc : Int) + off = (t : Int)) : am_sd G (am_J Y cl E A p l e R s m args below meth c nL Q) Rt (am_icmp 4 t) pc := by
  intro L S h hk H locs ls hP hD hS hl
  unfold am_icmp at hk
  split at hk
  · rename_i b a S
    obtain ⟨⟨h1, h2, h3, h4⟩, hk⟩ := hk
    exact lv_icmp_gt X.1 X.2.1 hd ht (fun q => hk.1 ((nu_lt (a := b) (b := a) h3 h4 h1 h2).mp q) H locs ls hP hD hS hl) (fun q => hk.2 (Int.not_lt.mp (fun z => q ((nu_lt (a := b) (b := a) h3 h4 h1 h2).mpr z))) H locs ls hP hD hS hl)
  · exact hk.elim
theorem am_lcmp_gt_ok (X : am_C Y cl E A p s m args meth c nL cc own Ts) {off : Int} {t : Nat} (hd : decode cc pc = .ok (.lcmp, 1)) (hd2 : decode cc (pc + 1) = .ok (.ifCond .gt off, 3)) (ht : ((pc + 1 : Nat) : Int) + off = (t : Int)) : am_sd G (am_J Y cl E A p l e R s m args below meth c nL Q) Rt (am_lcmp 4 t) pc := by
  intro L S h hk H locs ls hP hD hS hl
  unfold am_lcmp at hk
  split at hk
  · rename_i b a S
    obtain ⟨⟨h1, h2, h3, h4⟩, hk⟩ := hk
    refine W.lcmp X.1 X.2.1 hd ?_
    rw [nu_cmp h1 h2 h3 h4]
    generalize hv : (if b < a then (1 : Int) else if a = b then 0 else -1) = v
    have hr : -2147483648 ≤ v ∧ v < 2147483648 := by omega
    exact lv_if_gt X.1 X.2.1 hd2 ht (fun q => hk.1 (by have q2 := (nu_lt (a := 0) (by omega) (by omega) hr.1 hr.2).mp q; omega) H locs ls hP hD hS hl) (fun q => hk.2 (by have q2 := mt (nu_lt (a := 0) (by omega) (by omega) hr.1 hr.2).mpr q; omega) H locs ls hP hD hS hl)
  · exact hk.elim
theorem am_if_le_ok (X : am_C Y cl E A p s m args meth c nL cc own Ts) {off : Int} {t : Nat} (hd : decode cc pc = .ok (.ifCond .le off, 3)) (ht : (pc : Int) + off = (t : Int)) : am_sd G (am_J Y cl E A p l e R s m args below meth c nL Q) Rt (am_if 5 t) pc := by
  intro L S h hk H locs ls hP hD hS hl
  unfold am_if at hk
  split at hk
  · rename_i a S
    obtain ⟨⟨h1, h2⟩, hk⟩ := hk
    exact lv_if_le X.1 X.2.1 hd ht (fun q => hk.1 ((nu_le (a := a) (b := 0) h1 h2 (by omega) (by omega)).mp q) H locs ls hP hD hS hl) (fun q => hk.2 (Int.not_le.mp (fun z => q ((nu_le (a := a) (b := 0) h1 h2 (by omega) (by omega)).mpr z))) H locs ls hP hD hS hl)
  · exact hk.elim
theorem am_icmp_le_ok (X : am_C Y cl E A p s m args meth c nL cc own Ts) {off : Int} {t : Nat} (hd : decode cc pc = .ok (.if_icmp .le off, 3)) (ht : (pc : Int) + off = (t : Int)) : am_sd G (am_J Y cl E A p l e R s m args below meth c nL Q) Rt (am_icmp 5 t) pc := by
  intro L S h hk H locs ls hP hD hS hl
  unfold am_icmp at hk
  split at hk
  · rename_i b a S
    obtain ⟨⟨h1, h2, h3, h4⟩, hk⟩ := hk
    exact lv_icmp_le X.1 X.2.1 hd ht (fun q => hk.1 ((nu_le (a := a) (b := b) h1 h2 h3 h4).mp q) H locs ls hP hD hS hl) (fun q => hk.2 (Int.not_le.mp (fun z => q ((nu_le (a := a) (b := b) h1 h2 h3 h4).mpr z))) H locs ls hP hD hS hl)
  · exact hk.elim
theorem am_lcmp_le_ok (X : am_C Y cl E A p s m args meth c nL cc own Ts) {off : Int} {t : Nat} (hd : decode cc pc = .ok (.lcmp, 1)) (hd2 : decode cc (pc + 1) = .ok (.ifCond .le off, 3)) (ht : ((pc + 1 : Nat) : Int) + off = (t : Int)) : am_sd G (am_J Y cl E A p l e R s m args below meth c nL Q) Rt (am_lcmp 5 t) pc := by
  intro L S h hk H locs ls hP hD hS hl
  unfold am_lcmp at hk
  split at hk
  · rename_i b a S
    obtain ⟨⟨h1, h2, h3, h4⟩, hk⟩ := hk
    refine W.lcmp X.1 X.2.1 hd ?_
    rw [nu_cmp h1 h2 h3 h4]
    generalize hv : (if b < a then (1 : Int) else if a = b then 0 else -1) = v
    have hr : -2147483648 ≤ v ∧ v < 2147483648 := by omega
    exact lv_if_le X.1 X.2.1 hd2 ht (fun q => hk.1 (by have q2 := (nu_le (b := 0) hr.1 hr.2 (by omega) (by omega)).mp q; omega) H locs ls hP hD hS hl) (fun q => hk.2 (by have q2 := mt (nu_le (b := 0) hr.1 hr.2 (by omega) (by omega)).mpr q; omega) H locs ls hP hD hS hl)
  · exact hk.elim
theorem am_get_ok (X : am_C Y cl E A p s m args meth c nL cc own Ts) {ci k idx : Nat} {C : String} {T : u_T} {N : Nat} (hc : cl[ci]? = some (C, T, N)) (hk0 : k < N) (hin : ∀ w ∈ u_ws C T N, w ∈ Ts) (hlink : Cond.fieldLink own idx (T k).1 (T k).2.1 (T k).2.2.1 ∈ Ts) (hd : decode cc pc = .ok (.getfield idx, 3)) : am_sd G (am_J Y cl E A p l e R s m args below meth c nL Q) Rt (am_get Y ci k) pc := by
  intro L S h hk H locs ls hP hD hS hl
  unfold am_get at hk
  split at hk
  · rename_i q S
    split at hk
    · rename_i o hY
      have hat := am_w_at (E := E) (h := h) hY
      obtain ⟨o1, o2⟩ := o
      dsimp only at hk
      split at hk
      · rename_i e1 e2
        have e1 : o1 = ci := by simpa using e1
        subst e1
        exact va_get (D := E.1) X.1 X.2.1 X.2.2.2.2.1 hin X.2.2.2.1 X.2.2.2.2.2.1 hP q hat hc k hk0 (X.2.2.2.2.1 _ hlink) (fun _ h9 => h9) (by have := am_f_int E (h q) 0 o2 k e2; rw [Nat.zero_add] at this; exact this) hd (hk H locs ls hP hD hS hl)
      · rename_i r e1 e2
        have e1 : o1 = ci := by simpa using e1
        subst e1
        exact va_get (D := E.1) X.1 X.2.1 X.2.2.2.2.1 hin X.2.2.2.1 X.2.2.2.2.2.1 hP q hat hc k hk0 (X.2.2.2.2.1 _ hlink) (fun _ h9 => h9) (am_f_ref E (h q) 0 o2 k r e2) hd (hk H locs ls hP hD hS hl)
      · exact hk.elim
    · exact hk.elim
  · exact hk.elim
theorem am_put_ok (X : am_C Y cl E A p s m args meth c nL cc own Ts) {ci k idx : Nat} {C : String} {T : u_T} {N : Nat} {ty0 : Nat → FieldType} (hc : cl[ci]? = some (C, T, N)) (hk0 : k < N) (hin : ∀ w ∈ u_ws C T N, w ∈ Ts) (hty : ∀ k, k < N → parseFieldDescriptor (T k).2.2.1 = some (ty0 k)) (hnm : ∀ a, a < N → ∀ b, b < N → a ≠ b → (T a).2.1 ≠ (T b).2.1) (hfin : (T k).2.2.2 = false) (hint : parseFieldDescriptor (T k).2.2.1 = some .int) (hlink : Cond.fieldLink own idx (T k).1 (T k).2.1 (T k).2.2.1 ∈ Ts) (hd : decode cc pc = .ok (.putfield idx, 3)) : am_sd G (am_J Y cl E A p l e R s m args below meth c nL Q) Rt (am_put Y ci k) pc := by
  intro L S h hk H locs ls hP hD hS hl
  unfold am_put at hk
  split at hk
  · rename_i v q S
    split at hk
    · rename_i o hY
      have hat := am_w_at (E := E) (h := h) hY
      obtain ⟨o1, o2⟩ := o
      dsimp only at hk
      split at hk
      · rename_i e1 e2
        have e1 : o1 = ci := by simpa using e1
        subst e1
        have hset : am_w Y E (am_up h q k v) = (am_w Y E h).set q (E.2.2 q, .inr (o1, (am_f E (h q) 0 o2).set k (.int (Int32.ofInt v)))) := by
          refine am_w_set hY ?_
          have := am_f_set E (h q) v 0 o2 k e2
          rw [Nat.zero_add] at this
          exact congrArg (fun z => (Sum.inr (o1, z) : va_E)) this
        refine va_put (D := E.1) (v := .int (Int32.ofInt v)) X.1 X.2.1 X.2.2.2.2.1 hin ty0 hty hnm X.2.2.2.1 X.2.2.2.2.2.1 hP hD hS q hat hc k hk0 (X.2.2.2.2.1 _ hlink) (fun _ h9 => h9) hfin hint rfl rfl (by rw [am_f_len]; exact (List.getElem?_eq_some_iff.mp e2).1) hd (fun H1 locs1 hP1 hD1 hS1 => ?_)
        rw [← hset] at hP1 hD1
        exact hk H1 locs1 ls hP1 hD1 hS1 hl
      · exact hk.elim
    · exact hk.elim
  · exact hk.elim
theorem am_putz_ok (X : am_C Y cl E A p s m args meth c nL cc own Ts) {ci k idx : Nat} {C : String} {T : u_T} {N : Nat} {ty0 : Nat → FieldType} (hc : cl[ci]? = some (C, T, N)) (hk0 : k < N) (hin : ∀ w ∈ u_ws C T N, w ∈ Ts) (hty : ∀ k, k < N → parseFieldDescriptor (T k).2.2.1 = some (ty0 k)) (hnm : ∀ a, a < N → ∀ b, b < N → a ≠ b → (T a).2.1 ≠ (T b).2.1) (hfin : (T k).2.2.2 = false) (hint : parseFieldDescriptor (T k).2.2.1 = some .boolean) (hlink : Cond.fieldLink own idx (T k).1 (T k).2.1 (T k).2.2.1 ∈ Ts) (hd : decode cc pc = .ok (.putfield idx, 3)) : am_sd G (am_J Y cl E A p l e R s m args below meth c nL Q) Rt (am_putz Y ci k) pc := by
  intro L S h hk H locs ls hP hD hS hl
  unfold am_putz at hk
  split at hk
  · rename_i v q S
    split at hk
    · rename_i o hY
      have hat := am_w_at (E := E) (h := h) hY
      obtain ⟨o1, o2⟩ := o
      dsimp only at hk
      split at hk
      · rename_i e1 e2
        have e1 : o1 = ci := by simpa using e1
        subst e1
        obtain ⟨hv, hk⟩ := hk
        have hset : am_w Y E (am_up h q k v) = (am_w Y E h).set q (E.2.2 q, .inr (o1, (am_f E (h q) 0 o2).set k (.int (Int32.ofInt v)))) := by
          refine am_w_set hY ?_
          have := am_f_set E (h q) v 0 o2 k e2
          rw [Nat.zero_add] at this
          exact congrArg (fun z => (Sum.inr (o1, z) : va_E)) this
        refine va_put (D := E.1) (v := .int (Int32.ofInt v)) X.1 X.2.1 X.2.2.2.2.1 hin ty0 hty hnm X.2.2.2.1 X.2.2.2.2.2.1 hP hD hS q hat hc k hk0 (X.2.2.2.2.1 _ hlink) (fun _ h9 => h9) hfin hint (by rcases hv with rfl | rfl <;> rfl) (by rcases hv with rfl | rfl <;> decide) (by rw [am_f_len]; exact (List.getElem?_eq_some_iff.mp e2).1) hd (fun H1 locs1 hP1 hD1 hS1 => ?_)
        rw [← hset] at hP1 hD1
        exact hk H1 locs1 ls hP1 hD1 hS1 hl
      · exact hk.elim
    · exact hk.elim
  · exact hk.elim
theorem am_iald_ok (X : am_C Y cl E A p s m args meth c nL cc own Ts) (hY0 : ∀ (q k n : Nat), Y[q]? = some (.inr (k, n)) → n < 2147483648) (hd : decode cc pc = .ok (.iaload, 1)) : am_sd G (am_J Y cl E A p l e R s m args below meth c nL Q) Rt (am_iald Y) pc := by
  intro L S h hk H locs ls hP hD hS hl
  unfold am_iald at hk
  split at hk
  · rename_i i q S
    split at hk
    · rename_i n hY
      have hat := am_w_at (E := E) (h := h) hY
      obtain ⟨⟨h1, h2⟩, hk⟩ := hk
      have hn := hY0 _ _ _ hY
      refine va_iald (D := E.1) X.1 X.2.1 X.2.2.2.2.2.1 hP q 0 hat rfl (nu_in h1 h2 hn) hd ?_
      rw [nu_nat h1 (by omega)]
      exact hk H locs ls hP hD hS hl
    · exact hk.elim
  · exact hk.elim
theorem am_zald_ok (X : am_C Y cl E A p s m args meth c nL cc own Ts) (hY0 : ∀ (q k n : Nat), Y[q]? = some (.inr (k, n)) → n < 2147483648) (hd : decode cc pc = .ok (.baload, 1)) : am_sd G (am_J Y cl E A p l e R s m args below meth c nL Q) Rt (am_zald Y) pc := by
  intro L S h hk H locs ls hP hD hS hl
  unfold am_zald at hk
  split at hk
  · rename_i i q S
    split at hk
    · rename_i n hY
      have hat := am_w_at (E := E) (h := h) hY
      obtain ⟨⟨h1, h2⟩, hk⟩ := hk
      have hn := hY0 _ _ _ hY
      refine va_zald (D := E.1) X.1 X.2.1 X.2.2.2.2.2.1 hP q 2 hat rfl (nu_in h1 h2 hn) hd ?_
      rw [nu_nat h1 (by omega)]
      exact hk H locs ls hP hD hS hl
    · exact hk.elim
  · exact hk.elim
theorem am_lald_ok (X : am_C Y cl E A p s m args meth c nL cc own Ts) (hY0 : ∀ (q k n : Nat), Y[q]? = some (.inr (k, n)) → n < 2147483648) (hd : decode cc pc = .ok (.laload, 1)) : am_sd G (am_J Y cl E A p l e R s m args below meth c nL Q) Rt (am_lald Y) pc := by
  intro L S h hk H locs ls hP hD hS hl
  unfold am_lald at hk
  split at hk
  · rename_i i q S
    split at hk
    · rename_i n hY
      have hat := am_w_at (E := E) (h := h) hY
      obtain ⟨⟨h1, h2⟩, hk⟩ := hk
      have hn := hY0 _ _ _ hY
      refine va_lald (D := E.1) X.1 X.2.1 X.2.2.2.2.2.1 hP q 1 hat rfl (nu_in h1 h2 hn) hd ?_
      rw [nu_nat h1 (by omega)]
      exact hk H locs ls hP hD hS hl
    · exact hk.elim
  · exact hk.elim
theorem am_iast_ok (X : am_C Y cl E A p s m args meth c nL cc own Ts) (hY0 : ∀ (q k n : Nat), Y[q]? = some (.inr (k, n)) → n < 2147483648) (hd : decode cc pc = .ok (.iastore, 1)) : am_sd G (am_J Y cl E A p l e R s m args below meth c nL Q) Rt (am_iast Y) pc := by
  intro L S h hk H locs ls hP hD hS hl
  unfold am_iast at hk
  split at hk
  · rename_i v i q S
    split at hk
    · rename_i n hY
      have hat := am_w_at (E := E) (h := h) hY
      obtain ⟨⟨h1, h2⟩, hk⟩ := hk
      have hn := hY0 _ _ _ hY
      have hset : am_w Y E (am_up h q i.toNat v) = (am_w Y E h).set q (E.2.2 q, .inl (E.2.1.1, n, .inl (upd (fun j => Int32.ofInt (h q j)) i.toNat (Int32.ofInt v)))) := by
        refine am_w_set hY ?_
        refine congrArg (fun z => (Sum.inl (E.2.1.1, n, Sum.inl z) : va_E)) ?_
        funext j
        unfold upd
        by_cases hj : j = i.toNat
        · simp [hj]
        · simp [hj]
      refine va_iast (D := E.1) (x := Int32.ofInt v) X.1 X.2.1 X.2.2.2.2.2.1 hP hD hS q 0 hat rfl (nu_in h1 h2 hn) hd (fun H1 locs1 hP1 hD1 hS1 => ?_)
      rw [nu_nat h1 (by omega)] at hP1 hD1
      rw [← hset] at hP1 hD1
      exact hk H1 locs1 ls hP1 hD1 hS1 hl
    · exact hk.elim
  · exact hk.elim
theorem am_last_ok (X : am_C Y cl E A p s m args meth c nL cc own Ts) (hY0 : ∀ (q k n : Nat), Y[q]? = some (.inr (k, n)) → n < 2147483648) (hd : decode cc pc = .ok (.lastore, 1)) : am_sd G (am_J Y cl E A p l e R s m args below meth c nL Q) Rt (am_last Y) pc := by
  intro L S h hk H locs ls hP hD hS hl
  unfold am_last at hk
  split at hk
  · rename_i v i q S
    split at hk
    · rename_i n hY
      have hat := am_w_at (E := E) (h := h) hY
      obtain ⟨⟨h1, h2⟩, hk⟩ := hk
      have hn := hY0 _ _ _ hY
      have hset : am_w Y E (am_up h q i.toNat v) = (am_w Y E h).set q (E.2.2 q, .inl (E.2.1.2.1, n, .inr (.inl (vp_updL (fun j => Int64.ofInt (h q j)) i.toNat (Int64.ofInt v))))) := by
        refine am_w_set hY ?_
        refine congrArg (fun z => (Sum.inl (E.2.1.2.1, n, Sum.inr (Sum.inl z)) : va_E)) ?_
        funext j
        unfold vp_updL
        by_cases hj : j = i.toNat
        · simp [hj]
        · simp [hj]
      refine va_last (D := E.1) (x := Int64.ofInt v) X.1 X.2.1 X.2.2.2.2.2.1 hP hD hS q 1 hat rfl (nu_in h1 h2 hn) hd (fun H1 locs1 hP1 hD1 hS1 => ?_)
      rw [nu_nat h1 (by omega)] at hP1 hD1
      rw [← hset] at hP1 hD1
      exact hk H1 locs1 ls hP1 hD1 hS1 hl
    · exact hk.elim
  · exact hk.elim
theorem am_zast_ok (X : am_C Y cl E A p s m args meth c nL cc own Ts) (hY0 : ∀ (q k n : Nat), Y[q]? = some (.inr (k, n)) → n < 2147483648) (hd : decode cc pc = .ok (.bastore, 1)) : am_sd G (am_J Y cl E A p l e R s m args below meth c nL Q) Rt (am_zast Y) pc := by
  intro L S h hk H locs ls hP hD hS hl
  unfold am_zast at hk
  split at hk
  · rename_i v i q S
    split at hk
    · rename_i n hY
      have hat := am_w_at (E := E) (h := h) hY
      obtain ⟨⟨h1, h2, hv⟩, hk⟩ := hk
      have hn := hY0 _ _ _ hY
      have hset : am_w Y E (am_up h q i.toNat v) = (am_w Y E h).set q (E.2.2 q, .inl (E.2.1.2.2, n, .inl (upd (fun j => Int32.ofInt (h q j)) i.toNat (Int32.ofInt v)))) := by
        refine am_w_set hY ?_
        refine congrArg (fun z => (Sum.inl (E.2.1.2.2, n, Sum.inl z) : va_E)) ?_
        funext j
        unfold upd
        by_cases hj : j = i.toNat
        · simp [hj]
        · simp [hj]
      have hnar : vp_nar .boolean (Int32.ofInt v) = Int32.ofInt v := by rcases hv with rfl | rfl <;> rfl
      refine va_zast (D := E.1) (x := Int32.ofInt v) X.1 X.2.1 X.2.2.2.2.2.1 hP hD hS q 2 hat rfl (nu_in h1 h2 hn) hd (fun H1 locs1 hP1 hD1 hS1 => ?_)
      rw [nu_nat h1 (by omega), hnar] at hP1 hD1
      rw [← hset] at hP1 hD1
      exact hk H1 locs1 ls hP1 hD1 hS1 hl
    · exact hk.elim
  · exact hk.elim
end HB
end
section
/-! ends, calls, contracts -/
/-- how a method ends: its answer, the heap behind it, what else may have changed -/
def am_Q (Y : List AL) (cl : List vw_C) (E : AE) (A : Nat → Prop) (Qp : AR) : Array Value → State → Outcome → State → Prop := fun _ st oc t =>
  (∃ (r : Option AV) (h' : AH), oc = .returned (r.map (am_v E)) ∧ Qp r h' ∧ va_P E.1 cl (am_w Y E h') t.heap ∧ va_K E.1 cl (am_tys E) t ∧ va_D A (am_w Y E h')) ∧ va_F A st t
/-- a method: its name, code, locals, answer's type, room (frames, words) -/
abbrev AM : Type := MethodName × ByteArray × Nat × Option FieldType × Nat × Nat
abbrev AM.ws (q : AM) (Gw : List Cond) : List Cond := Cond.code q.1 q.2.1 q.2.2.1 q.2.2.2.1 :: Gw
abbrev AM.rm (q : AM) : Room := { frames := q.2.2.2.2.1, cells := 0, slots := 0, locals := q.2.2.2.2.2 }
def am_Pc (Y : List AL) (cl : List vw_C) (E : AE) (sz : Nat) (as : List AV) (h : AH) : Array Value → State → Prop := va_Pc (as.map (am_v E)) (fun U => U.heap.size = sz ∧ va_P E.1 cl (am_w Y E h) U.heap ∧ va_K E.1 cl (am_tys E) U ∧ va_D (fun _ => True) (am_w Y E h))
/-- the contract: from these arguments and this heap the method surely comes to Qp -/
def am_G (Y : List AL) (cl : List vw_C) (E : AE) (l : Launch) (Gw : List Cond) (mi : Nat → AM) : AG := fun k as h Qp =>
  ∀ sz : Nat, Met l (mi k).1 (AM.ws (mi k) Gw) (AM.rm (mi k)) (am_Pc Y cl E sz as h) (am_Q Y cl E (am_A Y E sz) Qp) 0 0 (am_A Y E sz)
theorem am_Pc_blind {Y : List AL} {cl : List vw_C} {E : AE} {sz : Nat} {as : List AV} {h : AH} : FrameBlind (am_Pc Y cl E sz as h) := fun a U g mk q => by
  obtain ⟨q0, q1, qP, qK, qD⟩ := q
  exact ⟨q0, q1, qP, va_K.moved (u := U) (U := U.calling g mk a) (Vm.Alike.refl U.vm) qK, qD⟩
def am_pop : Nat → List AV → List AV → (List AV → List AV → Prop) → Prop
  | 0, acc, S, k => k acc S
  | n + 1, acc, v :: S, k => am_pop n (v :: acc) S k
  | _ + 1, _, [], _ => False
theorem am_pop_ok : ∀ (n : Nat) (acc S : List AV) (k : List AV → List AV → Prop), am_pop n acc S k → ∃ as S', k (as ++ acc) S' ∧ S = as.reverse ++ S' ∧ as.length = n
  | 0, acc, S, k, h => ⟨[], S, h, rfl, rfl⟩
  | n + 1, acc, v :: S, k, h => by
    obtain ⟨as, S', h1, h2, h3⟩ := am_pop_ok n (v :: acc) S k h
    exact ⟨as ++ [v], S', by simpa using h1, by simp [h2], by simp [h3]⟩
  | n + 1, acc, [], k, h => h.elim
def am_cw : List AV → Nat
  | [] => 0
  | .inr (.inl _) :: S => am_cw S + 2
  | .inl _ :: S => am_cw S + 1
  | .inr (.inr _) :: S => am_cw S + 1
theorem am_cw_ok (E : AE) : ∀ S : List AV, ((S.map (am_v E)).map fun v => v.category).sum = am_cw S
  | [] => rfl
  | .inr (.inl a) :: S => by have := am_cw_ok E S; simp only [List.map_cons, List.sum_cons, am_cw] at this ⊢; rw [this]; show 2 + _ = _; omega
  | .inl a :: S => by have := am_cw_ok E S; simp only [List.map_cons, List.sum_cons, am_cw] at this ⊢; rw [this]; show 1 + _ = _; omega
  | .inr (.inr a) :: S => by have := am_cw_ok E S; simp only [List.map_cons, List.sum_cons, am_cw] at this ⊢; rw [this]; show 1 + _ = _; omega
def am_on (r : Option AV) (S : List AV) : List AV := match r with
  | some v => v :: S
  | none => S
/-- a call of an object's method, with n arguments -/
def am_callV (Y : List AL) (ci k n : Nat) : AD := fun G J _ pc L S h => am_pop (n + 1) [] S (fun as S' => match as with
  | .inr (.inr q) :: _ => match Y[q]? with
    | some (.inl o) => match o.1 == ci, Nat.ble (am_cw S') 8 with
      | true, true => G k as h (fun r h' => J (pc + 3) L (am_on r S') h')
      | _, _ => False
    | _ => False
  | _ => False)
def am_callS (k n : Nat) : AD := fun G J _ pc L S h => am_pop n [] S (fun as S' => match Nat.ble (am_cw S') 8 with
  | true => G k as h (fun r h' => J (pc + 3) L (am_on r S') h')
  | _ => False)
def am_lmax : AD := fun _ J _ pc L S h => match S with
  | .inr (.inl b) :: .inr (.inl a) :: S => match Nat.ble (am_cw S) 8 with
    | true => (-9223372036854775808 ≤ a ∧ a < 9223372036854775808 ∧ -9223372036854775808 ≤ b ∧ b < 9223372036854775808) ∧ J (pc + 3) L (.inr (.inl (if b < a then a else b)) :: S) h
    | _ => False
  | _ => False
def am_lmin : AD := fun _ J _ pc L S h => match S with
  | .inr (.inl b) :: .inr (.inl a) :: S => match Nat.ble (am_cw S) 8 with
    | true => (-9223372036854775808 ≤ a ∧ a < 9223372036854775808 ∧ -9223372036854775808 ≤ b ∧ b < 9223372036854775808) ∧ J (pc + 3) L (.inr (.inl (if b < a then b else a)) :: S) h
    | _ => False
  | _ => False
/-- a switch over lo, lo + 1, .. -/
def am_tb (a : Int) (yes : Nat → Prop) : Int → List Nat → Prop
  | _, [] => True
  | lo, t :: ts => (a = lo → yes t) ∧ am_tb a yes (lo + 1) ts
def am_tsw (lo hi : Int) (dflt : Nat) (ts : List Nat) : AD := fun _ J _ _ L S h => match S with
  | .inl a :: S => (-2147483648 ≤ a ∧ a < 2147483648) ∧ ((a < lo ∨ hi < a) → J dflt L S h) ∧ am_tb a (fun t => J t L S h) lo ts
  | _ => False
section HC
variable {Y : List AL} {cl : List vw_C} {E : AE} {A : Nat → Prop} {p : Program} {l : Launch} {e : Env} {R : Room} {s : State} {m : MethodId} {args : Array Value} {below : List Frame} {meth : Method} {c : Code} {nL : Nat} {Q : State → Prop} {cc : ByteArray} {own : String} {Ts : List Cond} {G : AG} {Rt : AR} {pc : Nat}
theorem am_ret_ok (X : am_C Y cl E A p s m args meth c nL cc own Ts) (hr : meth.sig.returnType = some .int) (hd : decode cc pc = .ok (.ireturn, 1)) : am_sd G (am_J Y cl E A p l e R s m args below meth c nL (MQ below (am_Q Y cl E A Rt) args s 0 0 A)) Rt am_ret pc := by
  intro L S h hk H locs ls hP hD hS hl
  unfold am_ret at hk
  split at hk
  · rename_i v
    exact W.iret X.1 X.2.1 hr (fun t ht hW => ⟨⟨some (.inl v), h, rfl, hk, by rw [ht]; exact hP, va_K.moved hW.alike X.2.2.2.2.2.1, hD⟩, hS.F ht⟩) hS.2.2 hd X.2.2.2.2.2.2.2.2
  · exact hk.elim
theorem am_zret_ok (X : am_C Y cl E A p s m args meth c nL cc own Ts) (hr : meth.sig.returnType = some .boolean) (hd : decode cc pc = .ok (.ireturn, 1)) : am_sd G (am_J Y cl E A p l e R s m args below meth c nL (MQ below (am_Q Y cl E A Rt) args s 0 0 A)) Rt am_zret pc := by
  intro L S h hk H locs ls hP hD hS hl
  unfold am_zret at hk
  split at hk
  · rename_i v
    obtain ⟨hv, hk⟩ := hk
    exact W.zret X.1 X.2.1 hr (by rcases hv with rfl | rfl <;> rfl) (fun t ht hW => ⟨⟨some (.inl v), h, rfl, hk, by rw [ht]; exact hP, va_K.moved hW.alike X.2.2.2.2.2.1, hD⟩, hS.F ht⟩) hS.2.2 hd X.2.2.2.2.2.2.2.2
  · exact hk.elim
theorem am_lret_ok (X : am_C Y cl E A p s m args meth c nL cc own Ts) (hr : meth.sig.returnType = some .long) (hd : decode cc pc = .ok (.lreturn, 1)) : am_sd G (am_J Y cl E A p l e R s m args below meth c nL (MQ below (am_Q Y cl E A Rt) args s 0 0 A)) Rt am_lret pc := by
  intro L S h hk H locs ls hP hD hS hl
  unfold am_lret at hk
  split at hk
  · rename_i v
    exact W.lret X.1 X.2.1 hr (fun t ht hW => ⟨⟨some (.inr (.inl v)), h, rfl, hk, by rw [ht]; exact hP, va_K.moved hW.alike X.2.2.2.2.2.1, hD⟩, hS.F ht⟩) hS.2.2 hd X.2.2.2.2.2.2.2.2
  · exact hk.elim
theorem am_vret_ok (X : am_C Y cl E A p s m args meth c nL cc own Ts) (hr : meth.sig.returnType = none) (hd : decode cc pc = .ok (.return_, 1)) : am_sd G (am_J Y cl E A p l e R s m args below meth c nL (MQ below (am_Q Y cl E A Rt) args s 0 0 A)) Rt am_vret pc := by
  intro L S h hk H locs ls hP hD hS hl
  unfold am_vret at hk
  split at hk
  · exact W.vret X.1 X.2.1 hr (fun t ht hW => ⟨⟨none, h, rfl, hk, by rw [ht]; exact hP, va_K.moved hW.alike X.2.2.2.2.2.1, hD⟩, hS.F ht⟩) hS.2.2 hd X.2.2.2.2.2.2.2.2
  · exact hk.elim
/-- behind a call -/
theorem am_back (X : am_C Y cl E A p s m args meth c nL cc own Ts) {L : List (Option AV)} {S' : List AV} {H : Heap} {locs : List Loc} {ls : Array Slot} {st0 : List Value} {a : Array Value} {K : AR} (hS : va_S A s.heap H locs) (hl : lv_has ls nL (am_a E 0 L))
    (hr : va_Run p l e R s m args below meth c H locs 0 0 0 0 (F0 m pc ls st0) (S'.map (am_v E)) (am_Q Y cl E (am_A Y E H.size) K a) (am_A Y E H.size))
    (hk : ∀ r h', K r h' → am_J Y cl E A p l e R s m args below meth c nL Q (pc + 3) L (am_on r S') h') : W p l e R s m args below meth c H locs 0 0 Q (F0 m pc ls st0) := by
  have sub : ∀ q, am_A Y E H.size q → A q := by
    intro q hq
    rcases hq with ⟨k, hk, rfl⟩ | hq
    · exact X.2.2.2.2.2.2.2.1 k hk
    · exact X.2.2.2.2.2.2.1 q (Nat.le_trans hS.1 hq)
  intro T hT X0
  obtain ⟨v, st₀, t, T', L1, h0, X', hL, e1, e2, ⟨⟨r, h', hv, hp, hP, hK, hD⟩, hz, hf⟩, st⟩ := hr T hT X0
  cases hv
  rw [h0] at hz hf
  have hS' : va_S A s.heap T'.heap (locs ++ L1) := by
    refine ⟨Nat.le_trans hS.1 (by rw [e1]; exact hz), fun q h1 h2 => ?_, fun q hq => ?_⟩
    · rw [e1, hf q (Nat.lt_of_lt_of_le h1 hS.1) (fun z => h2 (sub q z))]
      exact hS.2.1 q h1 h2
    · rcases List.mem_append.mp hq with h | h
      · exact hS.2.2 q h
      · exact sub _ (hL q h)
  have hj := hk r h' hp T'.heap (locs ++ L1) ls (by rw [e1]; exact hP) (hD.weaken (fun _ q _ h => sub q.1 h)) hS' hl
  have hst : (am_on r S').map (am_v E) = (r.map (am_v E)).toList ++ S'.map (am_v E) := by cases r <;> rfl
  rw [hst] at hj
  obtain ⟨t2, a1, b1⟩ := hj T' rfl X'
  exact ⟨t2, st t2 a1, b1⟩
theorem am_callV_ok (X : am_C Y cl E A p s m args meth c nL cc own Ts) {Gw : List Cond} {mi : Nat → AM} {ci k n idx : Nat} {C : String} {T : u_T} {N : Nat} (hc : cl[ci]? = some (C, T, N)) (hG : GoodIn Ts (wsV own idx C (mi k).1 (AM.ws (mi k) Gw)))
    (hd0 : (mi k).1.cls = C ∧ (mi k).1.cls ≠ "java/lang/invoke/MethodHandle" ∧ (mi k).1.cls ≠ "java/lang/invoke/VarHandle" ∧ (parseMethodDescriptor (mi k).1.desc).map (fun d => d.parameters.length) = some n)
    (hR : (AM.rm (mi k)).frames + 1 ≤ R.frames ∧ 8 + ((mi k).2.2.1 + 11) + (AM.rm (mi k)).locals ≤ R.locals) (hRc : 0 ≤ R.cells) (hd : decode cc pc = .ok (.invokevirtual idx, 3)) : am_sd (am_G Y cl E l Gw mi) (am_J Y cl E A p l e R s m args below meth c nL Q) Rt (am_callV Y ci k n) pc := by
  intro L S h hk H locs ls hP hD hS hl
  unfold am_callV at hk
  obtain ⟨as, S', h1, h2, h3⟩ := am_pop_ok _ _ _ _ hk
  rw [List.append_nil] at h1
  split at h1
  · rename_i q as'
    split at h1
    · rename_i o hY
      split at h1
      · rename_i e1 e2
        have e1 : o.1 = ci := by simpa using e1
        have e2 : am_cw S' ≤ 8 := Nat.le_of_ble_eq_true e2
        obtain ⟨o1, o2⟩ := o
        dsimp only at e1
        subst e1
        have hat := am_w_at (E := E) (h := h) hY
        have hM := h1 H.size
        have hlen : as'.length = n := by simpa using h3
        refine am_back X (a := (Value.ref (E.2.2 q) :: as'.map (am_v E)).toArray) (K := fun r h' => am_J Y cl E A p l e R s m args below meth c nL Q (pc + 3) L (am_on r S') h') hS hl ?_ (fun r h' hj => hj)
        refine va_runV (As := as'.map (am_v E)) (rest := S'.map (am_v E)) (C := C) (b := E.2.2 q) ⟨X.1, X.2.1, X.2.2.1, X.2.2.2.1, X.2.2.2.2.1⟩ hM (cwV n X.2.2.2.2.1 hG rfl rfl rfl hd0 hR) ⟨am_Pc_blind, va_recv X.2.2.2.2.2.1 hP hc hat, fun U hU hW => ⟨rfl, by rw [hU], by rw [hU]; exact hP, va_K.moved hW.alike X.2.2.2.2.2.1, hD.weaken (fun _ _ _ _ => trivial)⟩⟩ rfl (by simpa using hlen) hl.1 ?_ ?_ hd ⟨by omega, by omega⟩
        · show S.map (am_v E) = _
          rw [h2]
          simp [am_v]
        · show 2 * 0 + _ ≤ 8
          rw [am_cw_ok]
          omega
      · exact h1.elim
    · exact h1.elim
  · exact h1.elim
theorem am_callS_ok (X : am_C Y cl E A p s m args meth c nL cc own Ts) {Gw : List Cond} {mi : Nat → AM} {k n idx : Nat} (hG : GoodIn Ts (wsS own idx (mi k).1 (AM.ws (mi k) Gw)))
    (hd0 : (mi k).1.cls = own ∧ (mi k).1.cls ≠ "java/lang/invoke/MethodHandle" ∧ (mi k).1.cls ≠ "java/lang/invoke/VarHandle" ∧ (parseMethodDescriptor (mi k).1.desc).map (fun d => d.parameters.length) = some n)
    (hR : (AM.rm (mi k)).frames + 1 ≤ R.frames ∧ 8 + ((mi k).2.2.1 + 11) + (AM.rm (mi k)).locals ≤ R.locals) (hd : decode cc pc = .ok (.invokestatic idx, 3)) : am_sd (am_G Y cl E l Gw mi) (am_J Y cl E A p l e R s m args below meth c nL Q) Rt (am_callS k n) pc := by
  intro L S h hk H locs ls hP hD hS hl
  unfold am_callS at hk
  obtain ⟨as, S', h1, h2, h3⟩ := am_pop_ok _ _ _ _ hk
  rw [List.append_nil] at h1
  split at h1
  · rename_i e2
    have e2 : am_cw S' ≤ 8 := Nat.le_of_ble_eq_true e2
    have hM := h1 H.size
    refine am_back X (a := (as.map (am_v E)).toArray) (K := fun r h' => am_J Y cl E A p l e R s m args below meth c nL Q (pc + 3) L (am_on r S') h') hS hl ?_ (fun r h' hj => hj)
    refine va_runS (As := as.map (am_v E)) (rest := S'.map (am_v E)) ⟨X.1, X.2.1, X.2.2.1, X.2.2.2.1, X.2.2.2.2.1⟩ hM (cwS n X.2.2.2.2.1 hG rfl rfl rfl hd0 hR) ⟨am_Pc_blind, fun U hU hW => ⟨rfl, by rw [hU], by rw [hU]; exact hP, va_K.moved hW.alike X.2.2.2.2.2.1, hD.weaken (fun _ _ _ _ => trivial)⟩⟩ rfl (by simpa using h3) hl.1 ?_ ?_ hd ⟨by omega, by omega⟩
    · show S.map (am_v E) = _
      rw [h2]
      simp
    · show 2 * 0 + _ ≤ 8
      rw [am_cw_ok]
      omega
  · exact h1.elim
theorem am_lmax_ok (X : am_C Y cl E A p s m args meth c nL cc own Ts) {idx : Nat} (w1 : Cond.methodLink own idx Lib.MathLoose.max_long.x ∈ Ts) (w2 : Cond.static Lib.MathLoose.max_long.x ∈ Ts) (w3 : Cond.initialized "java/lang/Math" ∈ Ts) (w4 : Cond.code Lib.MathLoose.max_long.x Lib.MathLoose.max_long.code 4 (some .long) ∈ Ts) (hf : 1 ≤ R.frames) (hlo : 23 ≤ R.locals) (hd : decode cc pc = .ok (.invokestatic idx, 3)) : am_sd G (am_J Y cl E A p l e R s m args below meth c nL Q) Rt am_lmax pc := by
  intro L S h hk H locs ls hP hD hS hl
  unfold am_lmax at hk
  split at hk
  · split at hk
    · rename_i b a S _ e2
      have e2 : am_cw S ≤ 8 := Nat.le_of_ble_eq_true e2
      obtain ⟨⟨h1, h2, h3, h4⟩, hk⟩ := hk
      refine va_mmax_long X.1 X.2.1 (by rw [X.2.2.1]; exact hl.1.symm) X.2.2.2.1 (X.2.2.2.2.1 _ w1) (X.2.2.2.2.1 _ w2) (X.2.2.2.2.1 _ w3) (X.2.2.2.2.1 _ w4) hf (by rw [am_cw_ok]; omega) (Nat.zero_le _) (Nat.zero_le _) hd ?_
      have hv : (if Int64.ofInt b < Int64.ofInt a then Int64.ofInt a else Int64.ofInt b) = Int64.ofInt (if b < a then a else b) := by
        have q := nu_llt h3 h4 h1 h2
        by_cases g : b < a
        · rw [if_pos (q.mpr g), if_pos g]
        · rw [if_neg (fun z => g (q.mp z)), if_neg g]
      rw [hv]
      exact hk H locs ls hP hD hS hl
    · exact hk.elim
  · exact hk.elim
theorem am_lmin_ok (X : am_C Y cl E A p s m args meth c nL cc own Ts) {idx : Nat} (w1 : Cond.methodLink own idx Lib.MathLoose.min_long.x ∈ Ts) (w2 : Cond.static Lib.MathLoose.min_long.x ∈ Ts) (w3 : Cond.initialized "java/lang/Math" ∈ Ts) (w4 : Cond.code Lib.MathLoose.min_long.x Lib.MathLoose.min_long.code 4 (some .long) ∈ Ts) (hf : 1 ≤ R.frames) (hlo : 23 ≤ R.locals) (hd : decode cc pc = .ok (.invokestatic idx, 3)) : am_sd G (am_J Y cl E A p l e R s m args below meth c nL Q) Rt am_lmin pc := by
  intro L S h hk H locs ls hP hD hS hl
  unfold am_lmin at hk
  split at hk
  · split at hk
    · rename_i b a S _ e2
      have e2 : am_cw S ≤ 8 := Nat.le_of_ble_eq_true e2
      obtain ⟨⟨h1, h2, h3, h4⟩, hk⟩ := hk
      refine va_mmin_long X.1 X.2.1 (by rw [X.2.2.1]; exact hl.1.symm) X.2.2.2.1 (X.2.2.2.2.1 _ w1) (X.2.2.2.2.1 _ w2) (X.2.2.2.2.1 _ w3) (X.2.2.2.2.1 _ w4) hf (by rw [am_cw_ok]; omega) (Nat.zero_le _) (Nat.zero_le _) hd ?_
      have hv : (if Int64.ofInt b < Int64.ofInt a then Int64.ofInt b else Int64.ofInt a) = Int64.ofInt (if b < a then b else a) := by
        have q := nu_llt h3 h4 h1 h2
        by_cases g : b < a
        · rw [if_pos (q.mpr g), if_pos g]
        · rw [if_neg (fun z => g (q.mp z)), if_neg g]
      rw [hv]
      exact hk H locs ls hP hD hS hl
    · exact hk.elim
  · exact hk.elim
theorem am_tb_at {a : Int} {yes : Nat → Prop} : ∀ (ts : List Nat) (lo : Int) (j : Nat) (t : Nat), am_tb a yes lo ts → ts[j]? = some t → a = lo + j → yes t
  | [], lo, j, t, _, hj, _ => by simp at hj
  | t0 :: ts, lo, 0, t, h, hj, ha => by simp at hj; subst hj; exact h.1 (by omega)
  | t0 :: ts, lo, j + 1, t, h, hj, ha => am_tb_at ts (lo + 1) j t h.2 (by simpa using hj) (by omega)
theorem am_tsw_ok (X : am_C Y cl E A p s m args meth c nL cc own Ts) {dflt lo hi : Int} {offs : Array Int} {len d : Nat} {ts : List Nat} (hd : decode cc pc = .ok (.tableswitch dflt lo hi offs, len)) (hdf : (pc : Int) + dflt = (d : Int)) (hts : ts.map (fun t : Nat => (t : Int) - (pc : Int)) = offs.toList) (hlen : lo + ts.length = hi + 1) : am_sd G (am_J Y cl E A p l e R s m args below meth c nL Q) Rt (am_tsw lo hi d ts) pc := by
  intro L S h hk H locs ls hP hD hS hl
  unfold am_tsw at hk
  split at hk
  · rename_i a S
    obtain ⟨⟨h1, h2⟩, h3, h4⟩ := hk
    by_cases ho : a < lo ∨ hi < a
    · exact lv_tableOut X.1 X.2.1 hd (by rw [nu_i h1 h2]; exact ho) hdf (h3 ho H locs ls hP hD hS hl)
    · have hj : (a - lo).toNat < ts.length := by omega
      obtain ⟨t, ht⟩ : ∃ t, ts[(a - lo).toNat]? = some t := ⟨_, List.getElem?_eq_getElem hj⟩
      have hoff : offs[(a - lo).toNat]? = some ((t : Int) - pc) := by
        rw [← Array.getElem?_toList, ← hts, List.getElem?_map, ht]; rfl
      exact lv_tableIn X.1 X.2.1 hd (by rw [nu_i h1 h2]; omega) (by rw [nu_i h1 h2]; omega) (by rw [nu_i h1 h2]; exact hoff) (by omega) (am_tb_at ts lo _ t h4 ht (by omega) H locs ls hP hD hS hl)
  · exact hk.elim
end HC
/-! a method's table and its contract -/
abbrev AT : Type := List (Nat × AD)
def am_s (tbl : AT) (G : AG) (J : AJ) (Rt : AR) : AJ := fun pc L S h => match tbl.lookup pc with
  | some f => f G J Rt pc L S h
  | none => False
/-- the locals at the entry -/
def am_l0 : Nat → List AV → List (Option AV)
  | n, [] => List.replicate n none
  | n, .inr (.inl a) :: as => some (.inr (.inl a)) :: none :: am_l0 (n - 2) as
  | n, .inl a :: as => some (.inl a) :: am_l0 (n - 1) as
  | n, .inr (.inr a) :: as => some (.inr (.inr a)) :: am_l0 (n - 1) as
theorem am_l0_mem (E : AE) : ∀ (as : List AV) (n k : Nat) (q : Nat × Value), q ∈ am_a E k (am_l0 n as) → q ∈ lv_args k (as.map (am_v E))
  | [], n, k, q, h => by
    exfalso
    have : ∀ n k, am_a E k (List.replicate n none) = [] := by
      intro n
      induction n with
      | zero => intro k; rfl
      | succ n ih => intro k; simp only [List.replicate_succ, am_a]; exact ih _
    simp only [am_l0] at h
    rw [this] at h
    cases h
  | .inr (.inl a) :: as, n, k, q, h => by
    simp only [am_l0, am_a, List.mem_cons] at h
    simp only [List.map_cons, lv_args, List.mem_cons]
    rcases h with h | h
    · exact .inl h
    · right
      exact am_l0_mem E as (n - 2) (k + 1 + 1) q h
  | .inl a :: as, n, k, q, h => by
    simp only [am_l0, am_a, List.mem_cons] at h
    simp only [List.map_cons, lv_args, List.mem_cons]
    rcases h with h | h
    · exact .inl h
    · right
      exact am_l0_mem E as (n - 1) (k + 1) q h
  | .inr (.inr a) :: as, n, k, q, h => by
    simp only [am_l0, am_a, List.mem_cons] at h
    simp only [List.map_cons, lv_args, List.mem_cons]
    rcases h with h | h
    · exact .inl h
    · right
      exact am_l0_mem E as (n - 1) (k + 1) q h
def am_aw : List AV → Nat
  | [] => 0
  | .inr (.inl _) :: S => am_aw S + 2
  | .inl _ :: S => am_aw S + 1
  | .inr (.inr _) :: S => am_aw S + 1
theorem am_aw_ok (E : AE) : ∀ as : List AV, (lg_sl (as.map (am_v E))).length = am_aw as
  | [] => rfl
  | .inr (.inl a) :: S => by have := am_aw_ok E S; simp only [List.map_cons, lg_sl, List.flatMap_cons, List.length_append, am_aw] at this ⊢; rw [this]; show 2 + _ = _; omega
  | .inl a :: S => by have := am_aw_ok E S; simp only [List.map_cons, lg_sl, List.flatMap_cons, List.length_append, am_aw] at this ⊢; rw [this]; show 1 + _ = _; omega
  | .inr (.inr a) :: S => by have := am_aw_ok E S; simp only [List.map_cons, lg_sl, List.flatMap_cons, List.length_append, am_aw] at this ⊢; rw [this]; show 1 + _ = _; omega
/-- the table speaks of the code: at every place what is asked is done -/
def am_T (Y : List AL) (cl : List vw_C) (Gw : List Cond) (mi : Nat → AM) (k : Nat) (tbl : AT) : Prop :=
  ∀ (E : AE) (A : Nat → Prop) (p : Program) (l : Launch) (e : Env) (s : State) (m : MethodId) (args : Array Value) (below : List Frame) (meth : Method) (c : Code) (Rt : AR),
    am_C Y cl E A p s m args meth c (mi k).2.2.1 (mi k).2.1 (mi k).1.cls (AM.ws (mi k) Gw) → meth.sig.returnType = (mi k).2.2.2.1 →
    ∀ q ∈ tbl, am_sd (am_G Y cl E l Gw mi) (am_J Y cl E A p l e (AM.rm (mi k)) s m args below meth c (mi k).2.2.1 (MQ below (am_Q Y cl E A Rt) args s 0 0 A)) Rt q.2 q.1
theorem am_met {Y : List AL} {cl : List vw_C} {Gw : List Cond} {mi : Nat → AM} {k : Nat} {tbl : AT} (hT : am_T Y cl Gw mi k tbl) (hpl : plainName (mi k).1.cls = true) {E : AE} {l : Launch} {as : List AV} {h : AH} {Qp : AR} (haw : am_aw as ≤ (mi k).2.2.1)
    (hbody : ∀ J : AJ, (∀ pc L S h, am_s tbl (am_G Y cl E l Gw mi) J Qp pc L S h → J pc L S h) → J 0 (am_l0 (mi k).2.2.1 as) [] h) : am_G Y cl E l Gw mi k as h Qp := by
  intro sz
  refine Met.ofW (cc := (mi k).2.1) (maxL := (mi k).2.2.1) (ret := (mi k).2.2.2.1) hpl rfl ?_
  intro p e s m args below meth c s₁ B hml hv
  obtain ⟨rfl, hsz, hP, hK, hD0⟩ := hv
  subst hsz
  have hD := am_D_self (sz := s.heap.size) hD0
  have X : am_C Y cl E (am_A Y E s.heap.size) p s m (as.map (am_v E)).toArray meth c (mi k).2.2.1 (mi k).2.1 (mi k).1.cls (AM.ws (mi k) Gw) :=
    ⟨B.exec, B.bytes, hml, findClass_of_methodNamed B.named, atoms_spec (ws := AM.ws (mi k) Gw) B.pre, hK, fun q hq => .inr hq, fun k hk => .inl ⟨k, hk, rfl⟩, B.notSynchronized⟩
  have hl := lv_entry (as.map (am_v E)) (n := (mi k).2.2.1) (by rw [am_aw_ok]; exact haw)
  rw [lg_entry_eq]
  have hj := hbody (am_J Y cl E (am_A Y E s.heap.size) p l e (AM.rm (mi k)) s m (as.map (am_v E)).toArray below meth c (mi k).2.2.1 (MQ below (am_Q Y cl E (am_A Y E s.heap.size) Qp) (as.map (am_v E)).toArray s 0 0 (am_A Y E s.heap.size))) (fun pc L S h hs => by
    unfold am_s at hs
    split at hs
    · rename_i f hf
      have hmem : (pc, f) ∈ tbl := by
        have := List.lookup_eq_some_iff.mp hf
        obtain ⟨l1, l2, e1, -⟩ := this
        rw [e1]; simp
      exact hT E _ p l e s m _ below meth c Qp X B.returns (pc, f) hmem L S h hs
    · exact hs.elim)
  exact hj s.heap [] _ hP hD va_S.rf ⟨hl.1, hl.2.1, fun q hq => hl.2.2 q (am_l0_mem E as _ 0 q hq)⟩
end
section
/-! printed by wip/tools/gen_tables.py out of the code: classes, layout, methods -/
def R_Cr : String := "PointDesk$Crossings"
def F_Cr : u_T := fun k => match k with
  | 0 => ("PointDesk$Crossings", "points", "LPointDesk$Points;", true)
  | 1 => ("PointDesk$Crossings", "route", "LPointDesk$Route;", true)
  | 2 => ("PointDesk$Crossings", "pairs", "[I", true)
  | 3 => ("PointDesk$Crossings", "size", "I", false)
  | 4 => ("PointDesk$Crossings", "routeIsSimple", "Z", false)
  | _ => ("PointDesk$Crossings", "version", "I", false)
def t_Cr : Nat → FieldType := fun k => match k with
  | 0 => .object "PointDesk$Points"
  | 1 => .object "PointDesk$Route"
  | 2 => .array .int
  | 3 => .int
  | 4 => .boolean
  | _ => .int
theorem n_Cr : ∀ a, a < 6 → ∀ b, b < 6 → a ≠ b → (F_Cr a).2.1 ≠ (F_Cr b).2.1 := by decide +kernel
theorem t_Cr_ok : ∀ k, k < 6 → parseFieldDescriptor (F_Cr k).2.2.1 = some (t_Cr k) := by decide +kernel
def R_Hu : String := "PointDesk$Hull"
def F_Hu : u_T := fun k => match k with
  | 0 => ("PointDesk$Hull", "points", "LPointDesk$Points;", true)
  | 1 => ("PointDesk$Hull", "isLeftOut", "[Z", true)
  | 2 => ("PointDesk$Hull", "corners", "[I", true)
  | 3 => ("PointDesk$Hull", "size", "I", false)
  | _ => ("PointDesk$Hull", "version", "I", false)
def t_Hu : Nat → FieldType := fun k => match k with
  | 0 => .object "PointDesk$Points"
  | 1 => .array .boolean
  | 2 => .array .int
  | 3 => .int
  | _ => .int
theorem n_Hu : ∀ a, a < 5 → ∀ b, b < 5 → a ≠ b → (F_Hu a).2.1 ≠ (F_Hu b).2.1 := by decide +kernel
theorem t_Hu_ok : ∀ k, k < 5 → parseFieldDescriptor (F_Hu k).2.2.1 = some (t_Hu k) := by decide +kernel
def R_Hs : String := "PointDesk$HullSides"
def F_Hs : u_T := fun k => match k with
  | 0 => ("PointDesk$HullSides", "points", "LPointDesk$Points;", true)
  | 1 => ("PointDesk$HullSides", "hull", "LPointDesk$Hull;", true)
  | 2 => ("PointDesk$HullSides", "left", "LPointDesk$WideProduct;", true)
  | _ => ("PointDesk$HullSides", "right", "LPointDesk$WideProduct;", true)
def t_Hs : Nat → FieldType := fun k => match k with
  | 0 => .object "PointDesk$Points"
  | 1 => .object "PointDesk$Hull"
  | 2 => .object "PointDesk$WideProduct"
  | _ => .object "PointDesk$WideProduct"
theorem n_Hs : ∀ a, a < 4 → ∀ b, b < 4 → a ≠ b → (F_Hs a).2.1 ≠ (F_Hs b).2.1 := by decide +kernel
theorem t_Hs_ok : ∀ k, k < 4 → parseFieldDescriptor (F_Hs k).2.2.1 = some (t_Hs k) := by decide +kernel
def R_La : String := "PointDesk$Layers"
def F_La : u_T := fun k => match k with
  | 0 => ("PointDesk$Layers", "points", "LPointDesk$Points;", true)
  | 1 => ("PointDesk$Layers", "shell", "LPointDesk$Hull;", true)
  | 2 => ("PointDesk$Layers", "layerOf", "[I", true)
  | 3 => ("PointDesk$Layers", "size", "I", false)
  | _ => ("PointDesk$Layers", "version", "I", false)
def t_La : Nat → FieldType := fun k => match k with
  | 0 => .object "PointDesk$Points"
  | 1 => .object "PointDesk$Hull"
  | 2 => .array .int
  | 3 => .int
  | _ => .int
theorem n_La : ∀ a, a < 5 → ∀ b, b < 5 → a ≠ b → (F_La a).2.1 ≠ (F_La b).2.1 := by decide +kernel
theorem t_La_ok : ∀ k, k < 5 → parseFieldDescriptor (F_La k).2.2.1 = some (t_La k) := by decide +kernel
def R_Po : String := "PointDesk$Points"
def F_Po : u_T := fun k => match k with
  | 0 => ("PointDesk$Points", "xs", "[I", true)
  | 1 => ("PointDesk$Points", "ys", "[I", true)
  | 2 => ("PointDesk$Points", "size", "I", false)
  | _ => ("PointDesk$Points", "version", "I", false)
def t_Po : Nat → FieldType := fun k => match k with
  | 0 => .array .int
  | 1 => .array .int
  | 2 => .int
  | _ => .int
theorem n_Po : ∀ a, a < 4 → ∀ b, b < 4 → a ≠ b → (F_Po a).2.1 ≠ (F_Po b).2.1 := by decide +kernel
theorem t_Po_ok : ∀ k, k < 4 → parseFieldDescriptor (F_Po k).2.2.1 = some (t_Po k) := by decide +kernel
def R_Ro : String := "PointDesk$Route"
def F_Ro : u_T := fun k => match k with
  | 0 => ("PointDesk$Route", "points", "LPointDesk$Points;", true)
  | 1 => ("PointDesk$Route", "places", "[I", true)
  | 2 => ("PointDesk$Route", "size", "I", false)
  | _ => ("PointDesk$Route", "version", "I", false)
def t_Ro : Nat → FieldType := fun k => match k with
  | 0 => .object "PointDesk$Points"
  | 1 => .array .int
  | 2 => .int
  | _ => .int
theorem n_Ro : ∀ a, a < 4 → ∀ b, b < 4 → a ≠ b → (F_Ro a).2.1 ≠ (F_Ro b).2.1 := by decide +kernel
theorem t_Ro_ok : ∀ k, k < 4 → parseFieldDescriptor (F_Ro k).2.2.1 = some (t_Ro k) := by decide +kernel
def R_Tr : String := "PointDesk$Triangles"
def F_Tr : u_T := fun k => match k with
  | 0 => ("PointDesk$Triangles", "points", "LPointDesk$Points;", true)
  | 1 => ("PointDesk$Triangles", "route", "LPointDesk$Route;", true)
  | 2 => ("PointDesk$Triangles", "cut", "[I", true)
  | 3 => ("PointDesk$Triangles", "size", "I", false)
  | 4 => ("PointDesk$Triangles", "version", "I", false)
  | 5 => ("PointDesk$Triangles", "left", "[I", true)
  | 6 => ("PointDesk$Triangles", "leftSize", "I", false)
  | _ => ("PointDesk$Triangles", "innerSide", "I", false)
def t_Tr : Nat → FieldType := fun k => match k with
  | 0 => .object "PointDesk$Points"
  | 1 => .object "PointDesk$Route"
  | 2 => .array .int
  | 3 => .int
  | 4 => .int
  | 5 => .array .int
  | 6 => .int
  | _ => .int
theorem n_Tr : ∀ a, a < 8 → ∀ b, b < 8 → a ≠ b → (F_Tr a).2.1 ≠ (F_Tr b).2.1 := by decide +kernel
theorem t_Tr_ok : ∀ k, k < 8 → parseFieldDescriptor (F_Tr k).2.2.1 = some (t_Tr k) := by decide +kernel
def R_Wi : String := "PointDesk$WideProduct"
def F_Wi : u_T := fun k => match k with
  | _ => ("PointDesk$WideProduct", "limbs", "[J", true)
def t_Wi : Nat → FieldType := fun k => match k with
  | _ => .array .long
theorem n_Wi : ∀ a, a < 1 → ∀ b, b < 1 → a ≠ b → (F_Wi a).2.1 ≠ (F_Wi b).2.1 := by decide +kernel
theorem t_Wi_ok : ∀ k, k < 1 → parseFieldDescriptor (F_Wi k).2.2.1 = some (t_Wi k) := by decide +kernel
def R_De : String := "PointDesk"
def F_De : u_T := fun k => match k with
  | 0 => ("PointDesk", "points", "LPointDesk$Points;", true)
  | 1 => ("PointDesk", "hull", "LPointDesk$Hull;", true)
  | 2 => ("PointDesk", "hullSides", "LPointDesk$HullSides;", true)
  | 3 => ("PointDesk", "layers", "LPointDesk$Layers;", true)
  | 4 => ("PointDesk", "route", "LPointDesk$Route;", true)
  | 5 => ("PointDesk", "sideCrossings", "LPointDesk$Crossings;", true)
  | _ => ("PointDesk", "triangles", "LPointDesk$Triangles;", true)
def t_De : Nat → FieldType := fun k => match k with
  | 0 => .object "PointDesk$Points"
  | 1 => .object "PointDesk$Hull"
  | 2 => .object "PointDesk$HullSides"
  | 3 => .object "PointDesk$Layers"
  | 4 => .object "PointDesk$Route"
  | 5 => .object "PointDesk$Crossings"
  | _ => .object "PointDesk$Triangles"
theorem n_De : ∀ a, a < 7 → ∀ b, b < 7 → a ≠ b → (F_De a).2.1 ≠ (F_De b).2.1 := by decide +kernel
theorem t_De_ok : ∀ k, k < 7 → parseFieldDescriptor (F_De k).2.2.1 = some (t_De k) := by decide +kernel
def R_Mo : String := "PointDeskModel"
def F_Mo : u_T := fun k => match k with
  | 0 => ("PointDeskModel", "thrown", "I", false)
  | 1 => ("PointDeskModel", "xs", "[I", true)
  | 2 => ("PointDeskModel", "ys", "[I", true)
  | 3 => ("PointDeskModel", "size", "I", false)
  | 4 => ("PointDeskModel", "route", "[I", true)
  | 5 => ("PointDeskModel", "length", "I", false)
  | 6 => ("PointDeskModel", "marks", "[Z", true)
  | 7 => ("PointDeskModel", "corners", "[I", true)
  | 8 => ("PointDeskModel", "cornerCount", "I", false)
  | 9 => ("PointDeskModel", "layers", "[I", true)
  | 10 => ("PointDeskModel", "parts", "[J", true)
  | 11 => ("PointDeskModel", "works", "[J", true)
  | _ => ("PointDeskModel", "cut", "[Z", true)
def t_Mo : Nat → FieldType := fun k => match k with
  | 0 => .int
  | 1 => .array .int
  | 2 => .array .int
  | 3 => .int
  | 4 => .array .int
  | 5 => .int
  | 6 => .array .boolean
  | 7 => .array .int
  | 8 => .int
  | 9 => .array .int
  | 10 => .array .long
  | 11 => .array .long
  | _ => .array .boolean
theorem n_Mo : ∀ a, a < 13 → ∀ b, b < 13 → a ≠ b → (F_Mo a).2.1 ≠ (F_Mo b).2.1 := by decide +kernel
theorem t_Mo_ok : ∀ k, k < 13 → parseFieldDescriptor (F_Mo k).2.2.1 = some (t_Mo k) := by decide +kernel
abbrev am_cl : List vw_C := [(R_Cr, F_Cr, 6), (R_Hu, F_Hu, 5), (R_Hs, F_Hs, 4), (R_La, F_La, 5), (R_Po, F_Po, 4), (R_Ro, F_Ro, 4), (R_Tr, F_Tr, 8), (R_Wi, F_Wi, 1), (R_De, F_De, 7), (R_Mo, F_Mo, 13)]
abbrev am_Y : List AL := [.inl (8, [some 1, some 4, some 7, some 12, some 17, some 19, some 21]), .inl (4, [some 2, some 3, none, none]), .inr (0, 61), .inr (0, 61), .inl (1, [some 1, some 5, some 6, none, none]), .inr (2, 60), .inr (0, 60), .inl (2, [some 1, some 4, some 8, some 10]), .inl (7, [some 9]), .inr (1, 5), .inl (7, [some 11]), .inr (1, 5), .inl (3, [some 1, some 13, some 16, none, none]), .inl (1, [some 1, some 14, some 15, none, none]), .inr (2, 60), .inr (0, 60), .inr (0, 60), .inl (5, [some 1, some 18, none, none]), .inr (0, 40), .inl (0, [some 1, some 17, some 20, none, none, none]), .inr (0, 780), .inl (6, [some 1, some 17, some 22, none, none, some 23, none, none]), .inr (0, 40), .inr (0, 40), .inl (9, [none, some 25, some 26, none, some 27, none, some 28, some 29, none, some 30, some 31, some 32, some 33]), .inr (0, 60), .inr (0, 60), .inr (0, 40), .inr (2, 60), .inr (0, 60), .inr (0, 60), .inr (1, 12), .inr (1, 6), .inr (2, 40), .inr (1, 1)]
theorem am_Y0 : ∀ (q k n : Nat), am_Y[q]? = some (.inr (k, n)) → n < 2147483648 := by
  have key : ∀ x ∈ am_Y, (match x with | .inr (_, n) => decide (n < 2147483648) | .inl _ => true) = true := by decide
  intro q k n h
  have := key _ (List.mem_of_getElem? h)
  simpa using this
def am_Gw : List Cond := lw_tbl.filter goodWord
theorem am_Gin {w : Cond} (i : Nat) (h : lw_tbl[i]? = some w) (g : goodWord w = true) : w ∈ am_Gw := List.mem_filter.mpr ⟨List.mem_of_getElem? h, g⟩
theorem am_Ggood {w : Cond} (h : w ∈ am_Gw) : (w.onTables && w.keeps) = true ∨ ∃ ty, w = .arrayClass ty := good_of_word (List.mem_filter.mp h).2
theorem am_GV {x : Cond} {own C : String} {idx : Nat} {y : MethodName} {cy : Cond} (h1 : Cond.methodLink own idx y ∈ am_Gw) (h2 : Cond.instanceMethod y ∈ am_Gw) (h3 : Cond.selects C y y ∈ am_Gw) (h4 : Cond.initialized C ∈ am_Gw) (h5 : cy ∈ am_Gw) : GoodIn (x :: am_Gw) (wsV own idx C y (cy :: am_Gw)) := by
  intro w hw
  have hm : w ∈ am_Gw := by
    simp only [wsV, List.cons_append, List.nil_append, List.mem_cons] at hw
    rcases hw with rfl | rfl | rfl | rfl | rfl | hw
    · exact h1
    · exact h2
    · exact h3
    · exact h4
    · exact h5
    · exact hw
  exact ⟨List.mem_cons_of_mem _ hm, am_Ggood hm⟩
theorem am_GS {x : Cond} {own : String} {idx : Nat} {y : MethodName} {cy : Cond} (h1 : Cond.methodLink own idx y ∈ am_Gw) (h2 : Cond.static y ∈ am_Gw) (h4 : Cond.initialized own ∈ am_Gw) (h5 : cy ∈ am_Gw) : GoodIn (x :: am_Gw) (wsS own idx y (cy :: am_Gw)) := by
  intro w hw
  have hm : w ∈ am_Gw := by
    simp only [wsS, List.cons_append, List.nil_append, List.mem_cons] at hw
    rcases hw with rfl | rfl | rfl | rfl | hw
    · exact h1
    · exact h2
    · exact h4
    · exact h5
    · exact hw
  exact ⟨List.mem_cons_of_mem _ hm, am_Ggood hm⟩
theorem u_Cr : ∀ w ∈ u_ws R_Cr F_Cr 6, w ∈ am_Gw := by
  have h : u_ws R_Cr F_Cr 6 = [229, 231, 233, 235, 237, 239].filterMap (fun i => lw_tbl[i]?) := by decide +kernel
  have g : (u_ws R_Cr F_Cr 6).all goodWord = true := by decide +kernel
  intro w hw
  refine List.mem_filter.mpr ⟨?_, List.all_eq_true.mp g w hw⟩
  rw [h] at hw
  obtain ⟨i, -, hi⟩ := List.mem_filterMap.mp hw
  exact List.mem_of_getElem? hi
theorem u_Hu : ∀ w ∈ u_ws R_Hu F_Hu 5, w ∈ am_Gw := by
  have h : u_ws R_Hu F_Hu 5 = [119, 121, 123, 125, 127].filterMap (fun i => lw_tbl[i]?) := by decide +kernel
  have g : (u_ws R_Hu F_Hu 5).all goodWord = true := by decide +kernel
  intro w hw
  refine List.mem_filter.mpr ⟨?_, List.all_eq_true.mp g w hw⟩
  rw [h] at hw
  obtain ⟨i, -, hi⟩ := List.mem_filterMap.mp hw
  exact List.mem_of_getElem? hi
theorem u_Hs : ∀ w ∈ u_ws R_Hs F_Hs 4, w ∈ am_Gw := by
  have h : u_ws R_Hs F_Hs 4 = [152, 154, 156, 158].filterMap (fun i => lw_tbl[i]?) := by decide +kernel
  have g : (u_ws R_Hs F_Hs 4).all goodWord = true := by decide +kernel
  intro w hw
  refine List.mem_filter.mpr ⟨?_, List.all_eq_true.mp g w hw⟩
  rw [h] at hw
  obtain ⟨i, -, hi⟩ := List.mem_filterMap.mp hw
  exact List.mem_of_getElem? hi
theorem u_La : ∀ w ∈ u_ws R_La F_La 5, w ∈ am_Gw := by
  have h : u_ws R_La F_La 5 = [176, 178, 180, 182, 184].filterMap (fun i => lw_tbl[i]?) := by decide +kernel
  have g : (u_ws R_La F_La 5).all goodWord = true := by decide +kernel
  intro w hw
  refine List.mem_filter.mpr ⟨?_, List.all_eq_true.mp g w hw⟩
  rw [h] at hw
  obtain ⟨i, -, hi⟩ := List.mem_filterMap.mp hw
  exact List.mem_of_getElem? hi
theorem u_Po : ∀ w ∈ u_ws R_Po F_Po 4, w ∈ am_Gw := by
  have h : u_ws R_Po F_Po 4 = [94, 96, 98, 100].filterMap (fun i => lw_tbl[i]?) := by decide +kernel
  have g : (u_ws R_Po F_Po 4).all goodWord = true := by decide +kernel
  intro w hw
  refine List.mem_filter.mpr ⟨?_, List.all_eq_true.mp g w hw⟩
  rw [h] at hw
  obtain ⟨i, -, hi⟩ := List.mem_filterMap.mp hw
  exact List.mem_of_getElem? hi
theorem u_Ro : ∀ w ∈ u_ws R_Ro F_Ro 4, w ∈ am_Gw := by
  have h : u_ws R_Ro F_Ro 4 = [205, 207, 209, 211].filterMap (fun i => lw_tbl[i]?) := by decide +kernel
  have g : (u_ws R_Ro F_Ro 4).all goodWord = true := by decide +kernel
  intro w hw
  refine List.mem_filter.mpr ⟨?_, List.all_eq_true.mp g w hw⟩
  rw [h] at hw
  obtain ⟨i, -, hi⟩ := List.mem_filterMap.mp hw
  exact List.mem_of_getElem? hi
theorem u_Tr : ∀ w ∈ u_ws R_Tr F_Tr 8, w ∈ am_Gw := by
  have h : u_ws R_Tr F_Tr 8 = [258, 260, 262, 264, 266, 268, 270, 272].filterMap (fun i => lw_tbl[i]?) := by decide +kernel
  have g : (u_ws R_Tr F_Tr 8).all goodWord = true := by decide +kernel
  intro w hw
  refine List.mem_filter.mpr ⟨?_, List.all_eq_true.mp g w hw⟩
  rw [h] at hw
  obtain ⟨i, -, hi⟩ := List.mem_filterMap.mp hw
  exact List.mem_of_getElem? hi
theorem u_Wi : ∀ w ∈ u_ws R_Wi F_Wi 1, w ∈ am_Gw := by
  have h : u_ws R_Wi F_Wi 1 = [144].filterMap (fun i => lw_tbl[i]?) := by decide +kernel
  have g : (u_ws R_Wi F_Wi 1).all goodWord = true := by decide +kernel
  intro w hw
  refine List.mem_filter.mpr ⟨?_, List.all_eq_true.mp g w hw⟩
  rw [h] at hw
  obtain ⟨i, -, hi⟩ := List.mem_filterMap.mp hw
  exact List.mem_of_getElem? hi
theorem u_De : ∀ w ∈ u_ws R_De F_De 7, w ∈ am_Gw := by
  have h : u_ws R_De F_De 7 = [282, 284, 286, 288, 290, 292, 294].filterMap (fun i => lw_tbl[i]?) := by decide +kernel
  have g : (u_ws R_De F_De 7).all goodWord = true := by decide +kernel
  intro w hw
  refine List.mem_filter.mpr ⟨?_, List.all_eq_true.mp g w hw⟩
  rw [h] at hw
  obtain ⟨i, -, hi⟩ := List.mem_filterMap.mp hw
  exact List.mem_of_getElem? hi
theorem u_Mo : ∀ w ∈ u_ws R_Mo F_Mo 13, w ∈ am_Gw := by
  have h : u_ws R_Mo F_Mo 13 = [827, 829, 831, 833, 835, 837, 839, 841, 843, 845, 847, 849, 851].filterMap (fun i => lw_tbl[i]?) := by decide +kernel
  have g : (u_ws R_Mo F_Mo 13).all goodWord = true := by decide +kernel
  intro w hw
  refine List.mem_filter.mpr ⟨?_, List.all_eq_true.mp g w hw⟩
  rw [h] at hw
  obtain ⟨i, -, hi⟩ := List.mem_filterMap.mp hw
  exact List.mem_of_getElem? hi
abbrev q_De_isInPlane : AM := (⟨"PointDesk", "isInPlane", "(II)Z"⟩, prog_1_method_30_code, 2, some .boolean, 0, 0)
abbrev q_Po_append : AM := (⟨"PointDesk$Points", "append", "(II)V"⟩, prog_6_method_3_code, 3, none, 0, 0)
abbrev q_De_add : AM := (⟨"PointDesk", "add", "(II)I"⟩, prog_1_method_2_code, 3, some .int, 1, 22)
abbrev q_Po_removeAll : AM := (⟨"PointDesk$Points", "removeAll", "()V"⟩, prog_6_method_4_code, 1, none, 0, 0)
abbrev q_Ro_removeAll : AM := (⟨"PointDesk$Route", "removeAll", "()V"⟩, prog_7_method_3_code, 1, none, 0, 0)
abbrev q_De_clear : AM := (⟨"PointDesk", "clear", "()I"⟩, prog_1_method_3_code, 2, some .int, 1, 20)
abbrev q_Hu_takeAllIn : AM := (⟨"PointDesk$Hull", "takeAllIn", "()V"⟩, prog_3_method_3_code, 2, none, 0, 0)
abbrev q_Hu_takesIn : AM := (⟨"PointDesk$Hull", "takesIn", "(I)Z"⟩, prog_3_method_5_code, 2, some .boolean, 0, 0)
abbrev q_Hu_isLower : AM := (⟨"PointDesk$Hull", "isLower", "(II)Z"⟩, prog_3_method_8_code, 5, some .boolean, 0, 0)
abbrev q_Hu_lowest : AM := (⟨"PointDesk$Hull", "lowest", "()I"⟩, prog_3_method_7_code, 3, some .int, 1, 24)
abbrev q_Po_areAtOnePlace : AM := (⟨"PointDesk$Points", "areAtOnePlace", "(II)Z"⟩, prog_6_method_11_code, 3, some .boolean, 0, 0)
abbrev q_Po_crossProduct : AM := (⟨"PointDesk$Points", "crossProduct", "(III)J"⟩, prog_6_method_6_code, 8, some .long, 0, 0)
abbrev q_Po_squaredDistance : AM := (⟨"PointDesk$Points", "squaredDistance", "(II)J"⟩, prog_6_method_10_code, 7, some .long, 0, 0)
abbrev q_Hu_isBetter : AM := (⟨"PointDesk$Hull", "isBetter", "(III)Z"⟩, prog_3_method_10_code, 6, some .boolean, 1, 27)
abbrev q_Hu_cornerBehind : AM := (⟨"PointDesk$Hull", "cornerBehind", "(I)I"⟩, prog_3_method_9_code, 4, some .int, 2, 52)
abbrev q_Hu_wrap : AM := (⟨"PointDesk$Hull", "wrap", "()V"⟩, prog_3_method_6_code, 4, none, 3, 75)
abbrev q_Hu_refresh : AM := (⟨"PointDesk$Hull", "refresh", "()V"⟩, prog_3_method_2_code, 1, none, 4, 98)
abbrev q_Po_dotProduct : AM := (⟨"PointDesk$Points", "dotProduct", "(III)J"⟩, prog_6_method_8_code, 8, some .long, 0, 0)
abbrev q_Po_isOnSegment : AM := (⟨"PointDesk$Points", "isOnSegment", "(III)Z"⟩, prog_6_method_12_code, 4, some .boolean, 1, 27)
abbrev q_Hu_cornerAfter : AM := (⟨"PointDesk$Hull", "cornerAfter", "(I)I"⟩, prog_3_method_11_code, 2, some .int, 0, 0)
abbrev q_Hu_holds : AM := (⟨"PointDesk$Hull", "holds", "(I)I"⟩, prog_3_method_12_code, 6, some .int, 2, 50)
abbrev q_Hu_leaveOut : AM := (⟨"PointDesk$Hull", "leaveOut", "(I)V"⟩, prog_3_method_4_code, 2, none, 0, 0)
abbrev q_La_takeOffBorder : AM := (⟨"PointDesk$Layers", "takeOffBorder", "()I"⟩, prog_5_method_3_code, 3, some .int, 4, 98)
abbrev q_La_refresh : AM := (⟨"PointDesk$Layers", "refresh", "()V"⟩, prog_5_method_2_code, 3, none, 5, 120)
abbrev q_Po_pairsAtOnePlace : AM := (⟨"PointDesk$Points", "pairsAtOnePlace", "()I"⟩, prog_6_method_15_code, 4, some .int, 1, 22)
abbrev q_Po_threesOnOneLine : AM := (⟨"PointDesk$Points", "threesOnOneLine", "()I"⟩, prog_6_method_16_code, 5, some .int, 1, 27)
abbrev q_De_count : AM := (⟨"PointDesk", "count", "(I)I"⟩, prog_1_method_4_code, 2, some .int, 6, 142)
abbrev q_Po_has : AM := (⟨"PointDesk$Points", "has", "(I)Z"⟩, prog_6_method_2_code, 2, some .boolean, 0, 0)
abbrev q_De_requirePoint : AM := (⟨"PointDesk", "requirePoint", "(I)V"⟩, prog_1_method_28_code, 2, none, 1, 21)
abbrev q_De_at : AM := (⟨"PointDesk", "at", "(II)I"⟩, prog_1_method_5_code, 3, some .int, 2, 42)
abbrev q_De_corner : AM := (⟨"PointDesk", "corner", "(I)I"⟩, prog_1_method_6_code, 2, some .int, 5, 118)
abbrev q_Hu_twiceArea : AM := (⟨"PointDesk$Hull", "twiceArea", "()J"⟩, prog_3_method_14_code, 4, some .long, 1, 27)
abbrev q_De_area : AM := (⟨"PointDesk", "area", "()J"⟩, prog_1_method_7_code, 1, some .long, 5, 118)
abbrev q_De_layer : AM := (⟨"PointDesk", "layer", "(I)I"⟩, prog_1_method_8_code, 2, some .int, 6, 142)
abbrev q_De_pair : AM := (⟨"PointDesk", "pair", "(I)I"⟩, prog_1_method_9_code, 9, some .int, 1, 26)
abbrev q_De_distance : AM := (⟨"PointDesk", "distance", "(II)J"⟩, prog_1_method_10_code, 3, some .long, 2, 42)
abbrev q_Hs_height : AM := (⟨"PointDesk$HullSides", "height", "(I)J"⟩, prog_4_method_2_code, 5, some .long, 1, 27)
abbrev q_Hs_span : AM := (⟨"PointDesk$HullSides", "span", "(I)J"⟩, prog_4_method_4_code, 9, some .long, 1, 27)
abbrev q_Hs_width : AM := (⟨"PointDesk$HullSides", "width", "(II)J"⟩, prog_4_method_7_code, 3, some .long, 2, 55)
abbrev q_Hs_length : AM := (⟨"PointDesk$HullSides", "length", "(I)J"⟩, prog_4_method_3_code, 2, some .long, 1, 26)
abbrev q_Wi_multiplyBy : AM := (⟨"PointDesk$WideProduct", "multiplyBy", "(J)V"⟩, prog_9_method_3_code, 8, none, 0, 0)
abbrev q_Wi_setTo : AM := (⟨"PointDesk$WideProduct", "setTo", "(JJJ)V"⟩, prog_9_method_2_code, 8, none, 1, 27)
abbrev q_Wi_isBelow : AM := (⟨"PointDesk$WideProduct", "isBelow", "(LPointDesk$WideProduct;)Z"⟩, prog_9_method_4_code, 3, some .boolean, 0, 0)
abbrev q_Hs_isLess : AM := (⟨"PointDesk$HullSides", "isLess", "(III)Z"⟩, prog_4_method_6_code, 4, some .boolean, 3, 77)
abbrev q_Hs_firstLeast : AM := (⟨"PointDesk$HullSides", "firstLeast", "(I)I"⟩, prog_4_method_5_code, 4, some .int, 4, 100)
abbrev q_De_best : AM := (⟨"PointDesk", "best", "(I)I"⟩, prog_1_method_11_code, 2, some .int, 5, 123)
abbrev q_De_side : AM := (⟨"PointDesk", "side", "(II)J"⟩, prog_1_method_12_code, 3, some .long, 5, 118)
abbrev q_De_requireInPlane : AM := (⟨"PointDesk", "requireInPlane", "(II)V"⟩, prog_1_method_29_code, 2, none, 1, 21)
abbrev q_Po_ask : AM := (⟨"PointDesk$Points", "ask", "(II)V"⟩, prog_6_method_5_code, 3, none, 0, 0)
abbrev q_De_where : AM := (⟨"PointDesk", "where", "(II)I"⟩, prog_1_method_13_code, 3, some .int, 5, 118)
abbrev q_De_nearest : AM := (⟨"PointDesk", "nearest", "(II)I"⟩, prog_1_method_14_code, 5, some .int, 2, 42)
abbrev q_Po_handOf : AM := (⟨"PointDesk$Points", "handOf", "(III)I"⟩, prog_6_method_7_code, 6, some .int, 1, 27)
abbrev q_De_beside : AM := (⟨"PointDesk", "beside", "(III)I"⟩, prog_1_method_15_code, 6, some .int, 2, 52)
abbrev q_Ro_append : AM := (⟨"PointDesk$Route", "append", "(I)V"⟩, prog_7_method_2_code, 2, none, 0, 0)
abbrev q_De_go : AM := (⟨"PointDesk", "go", "(I)I"⟩, prog_1_method_16_code, 2, some .int, 1, 21)
abbrev q_De_stop : AM := (⟨"PointDesk", "stop", "()I"⟩, prog_1_method_17_code, 2, some .int, 1, 20)
abbrev q_De_place : AM := (⟨"PointDesk", "place", "(I)I"⟩, prog_1_method_18_code, 2, some .int, 0, 0)
abbrev q_Ro_reverse : AM := (⟨"PointDesk$Route", "reverse", "(II)V"⟩, prog_7_method_4_code, 6, none, 0, 0)
abbrev q_De_turn : AM := (⟨"PointDesk", "turn", "(II)V"⟩, prog_1_method_19_code, 3, none, 1, 25)
abbrev q_Ro_placeAfter : AM := (⟨"PointDesk$Route", "placeAfter", "(I)I"⟩, prog_7_method_5_code, 2, some .int, 0, 0)
abbrev q_Ro_pointAfter : AM := (⟨"PointDesk$Route", "pointAfter", "(I)I"⟩, prog_7_method_6_code, 2, some .int, 1, 21)
abbrev q_Cr_foldsBack : AM := (⟨"PointDesk$Crossings", "foldsBack", "(II)Z"⟩, prog_2_method_4_code, 6, some .boolean, 2, 42)
abbrev q_Po_segmentsMeet : AM := (⟨"PointDesk$Points", "segmentsMeet", "(IIII)Z"⟩, prog_6_method_13_code, 7, some .boolean, 2, 52)
abbrev q_Cr_doCross : AM := (⟨"PointDesk$Crossings", "doCross", "(II)Z"⟩, prog_2_method_3_code, 3, some .boolean, 3, 78)
abbrev q_Ro_pointsAreApart : AM := (⟨"PointDesk$Route", "pointsAreApart", "()Z"⟩, prog_7_method_7_code, 3, some .boolean, 1, 22)
abbrev q_Cr_refresh : AM := (⟨"PointDesk$Crossings", "refresh", "()V"⟩, prog_2_method_2_code, 4, none, 4, 100)
abbrev q_De_crossings : AM := (⟨"PointDesk", "crossings", "()I"⟩, prog_1_method_20_code, 1, some .int, 5, 123)
abbrev q_De_crossing : AM := (⟨"PointDesk", "crossing", "(I)I"⟩, prog_1_method_21_code, 2, some .int, 5, 123)
abbrev q_De_isRouteSimple : AM := (⟨"PointDesk", "isRouteSimple", "()Z"⟩, prog_1_method_27_code, 1, some .boolean, 5, 123)
abbrev q_De_simple : AM := (⟨"PointDesk", "simple", "()I"⟩, prog_1_method_22_code, 1, some .int, 6, 143)
abbrev q_Po_roundProduct : AM := (⟨"PointDesk$Points", "roundProduct", "(II)J"⟩, prog_6_method_9_code, 3, some .long, 0, 0)
abbrev q_Ro_sumRound : AM := (⟨"PointDesk$Route", "sumRound", "()J"⟩, prog_7_method_8_code, 4, some .long, 2, 42)
abbrev q_De_round : AM := (⟨"PointDesk", "round", "()J"⟩, prog_1_method_23_code, 1, some .long, 3, 65)
abbrev q_Po_isSeenFrom : AM := (⟨"PointDesk$Points", "isSeenFrom", "(III)Z"⟩, prog_6_method_14_code, 6, some .boolean, 2, 52)
abbrev q_Ro_holds : AM := (⟨"PointDesk$Route", "holds", "(I)I"⟩, prog_7_method_9_code, 4, some .int, 3, 77)
abbrev q_De_inside : AM := (⟨"PointDesk", "inside", "(II)I"⟩, prog_1_method_24_code, 3, some .int, 6, 143)
abbrev q_Tr_before : AM := (⟨"PointDesk$Triangles", "before", "(I)I"⟩, prog_8_method_6_code, 2, some .int, 0, 0)
abbrev q_Tr_behind : AM := (⟨"PointDesk$Triangles", "behind", "(I)I"⟩, prog_8_method_7_code, 2, some .int, 0, 0)
abbrev q_Tr_turnInwards : AM := (⟨"PointDesk$Triangles", "turnInwards", "(III)J"⟩, prog_8_method_10_code, 4, some .long, 1, 27)
abbrev q_Tr_isInTriangle : AM := (⟨"PointDesk$Triangles", "isInTriangle", "(IIII)Z"⟩, prog_8_method_11_code, 5, some .boolean, 1, 27)
abbrev q_Tr_isEar : AM := (⟨"PointDesk$Triangles", "isEar", "(I)Z"⟩, prog_8_method_9_code, 8, some .boolean, 2, 51)
abbrev q_Tr_firstEar : AM := (⟨"PointDesk$Triangles", "firstEar", "()I"⟩, prog_8_method_8_code, 3, some .int, 3, 78)
abbrev q_Tr_keep : AM := (⟨"PointDesk$Triangles", "keep", "(III)V"⟩, prog_8_method_4_code, 4, none, 0, 0)
abbrev q_Tr_remove : AM := (⟨"PointDesk$Triangles", "remove", "(I)V"⟩, prog_8_method_5_code, 3, none, 0, 0)
abbrev q_Tr_cutAll : AM := (⟨"PointDesk$Triangles", "cutAll", "()V"⟩, prog_8_method_3_code, 3, none, 4, 100)
abbrev q_Tr_refresh : AM := (⟨"PointDesk$Triangles", "refresh", "(Z)V"⟩, prog_8_method_2_code, 2, none, 5, 122)
abbrev q_De_triangle : AM := (⟨"PointDesk", "triangle", "(I)I"⟩, prog_1_method_25_code, 2, some .int, 6, 143)
abbrev q_Hu_holdsAllPoints : AM := (⟨"PointDesk$Hull", "holdsAllPoints", "()Z"⟩, prog_3_method_13_code, 2, some .boolean, 3, 75)
abbrev q_Hu_sumRound : AM := (⟨"PointDesk$Hull", "sumRound", "()J"⟩, prog_3_method_15_code, 4, some .long, 1, 22)
abbrev q_Tr_fillTheRoute : AM := (⟨"PointDesk$Triangles", "fillTheRoute", "()Z"⟩, prog_8_method_12_code, 7, some .boolean, 3, 65)
abbrev q_De_check : AM := (⟨"PointDesk", "check", "()I"⟩, prog_1_method_26_code, 2, some .int, 6, 143)
abbrev q_Mo_thrown : AM := (⟨"PointDeskModel", "thrown", "()I"⟩, prog_11_method_2_code, 1, some .int, 0, 0)
abbrev q_Mo_isFar : AM := (⟨"PointDeskModel", "isFar", "(I)Z"⟩, prog_11_method_4_code, 1, some .boolean, 0, 0)
abbrev q_Mo_add : AM := (⟨"PointDeskModel", "add", "(II)I"⟩, prog_11_method_3_code, 3, some .int, 1, 20)
abbrev q_Mo_clear : AM := (⟨"PointDeskModel", "clear", "()I"⟩, prog_11_method_5_code, 2, some .int, 0, 0)
abbrev q_Mo_c : AM := (⟨"PointDeskModel", "c", "(IIII)J"⟩, prog_11_method_6_code, 5, some .long, 0, 0)
abbrev q_Mo_turnOf : AM := (⟨"PointDeskModel", "turnOf", "(III)J"⟩, prog_11_method_7_code, 4, some .long, 1, 24)
abbrev q_Mo_farOf : AM := (⟨"PointDeskModel", "farOf", "(III)J"⟩, prog_11_method_8_code, 4, some .long, 0, 0)
abbrev q_Mo_isSame : AM := (⟨"PointDeskModel", "isSame", "(II)Z"⟩, prog_11_method_9_code, 3, some .boolean, 0, 0)
abbrev q_Mo_isAmong : AM := (⟨"PointDeskModel", "isAmong", "(III)Z"⟩, prog_11_method_10_code, 3, some .boolean, 0, 0)
abbrev q_Mo_isOn : AM := (⟨"PointDeskModel", "isOn", "(IIII)Z"⟩, prog_11_method_11_code, 5, some .boolean, 1, 24)
abbrev q_Mo_next : AM := (⟨"PointDeskModel", "next", "(I)I"⟩, prog_11_method_12_code, 2, some .int, 0, 0)
abbrev q_Mo_follower : AM := (⟨"PointDeskModel", "follower", "(I)I"⟩, prog_11_method_14_code, 7, some .int, 2, 47)
abbrev q_Mo_wrap : AM := (⟨"PointDeskModel", "wrap", "()V"⟩, prog_11_method_13_code, 4, none, 3, 73)
abbrev q_Mo_whereIs : AM := (⟨"PointDeskModel", "whereIs", "(II)I"⟩, prog_11_method_15_code, 7, some .int, 2, 48)
abbrev q_Mo_markAll : AM := (⟨"PointDeskModel", "markAll", "()V"⟩, prog_11_method_16_code, 2, none, 0, 0)
abbrev q_Mo_hull : AM := (⟨"PointDeskModel", "hull", "()V"⟩, prog_11_method_17_code, 1, none, 4, 96)
abbrev q_Mo_peel : AM := (⟨"PointDeskModel", "peel", "()I"⟩, prog_11_method_18_code, 5, some .int, 4, 96)
abbrev q_Mo_lines : AM := (⟨"PointDeskModel", "lines", "()I"⟩, prog_11_method_20_code, 5, some .int, 2, 47)
abbrev q_Mo_count : AM := (⟨"PointDeskModel", "count", "(I)I"⟩, prog_11_method_19_code, 5, some .int, 5, 120)
abbrev q_Mo_isPoint : AM := (⟨"PointDeskModel", "isPoint", "(I)Z"⟩, prog_11_method_21_code, 2, some .boolean, 0, 0)
abbrev q_Mo_at : AM := (⟨"PointDeskModel", "at", "(II)I"⟩, prog_11_method_22_code, 3, some .int, 1, 21)
abbrev q_Mo_corner : AM := (⟨"PointDeskModel", "corner", "(I)I"⟩, prog_11_method_23_code, 2, some .int, 5, 116)
abbrev q_Mo_area : AM := (⟨"PointDeskModel", "area", "()J"⟩, prog_11_method_24_code, 6, some .long, 5, 116)
abbrev q_Mo_layer : AM := (⟨"PointDeskModel", "layer", "(I)I"⟩, prog_11_method_25_code, 3, some .int, 5, 120)
abbrev q_Mo_pair : AM := (⟨"PointDeskModel", "pair", "(I)I"⟩, prog_11_method_26_code, 9, some .int, 1, 23)
abbrev q_Mo_distance : AM := (⟨"PointDeskModel", "distance", "(II)J"⟩, prog_11_method_27_code, 3, some .long, 1, 23)
abbrev q_Mo_heightOf : AM := (⟨"PointDeskModel", "heightOf", "(I)J"⟩, prog_11_method_28_code, 7, some .long, 2, 47)
abbrev q_Mo_lengthOf : AM := (⟨"PointDeskModel", "lengthOf", "(I)J"⟩, prog_11_method_29_code, 2, some .long, 1, 23)
abbrev q_Mo_spanOf : AM := (⟨"PointDeskModel", "spanOf", "(I)J"⟩, prog_11_method_30_code, 12, some .long, 1, 21)
abbrev q_Mo_times : AM := (⟨"PointDeskModel", "times", "(IJ)V"⟩, prog_11_method_31_code, 9, none, 0, 0)
abbrev q_Mo_product : AM := (⟨"PointDeskModel", "product", "(IJJJ)V"⟩, prog_11_method_32_code, 9, none, 1, 28)
abbrev q_Mo_isLess : AM := (⟨"PointDeskModel", "isLess", "()Z"⟩, prog_11_method_33_code, 2, some .boolean, 0, 0)
abbrev q_Mo_best : AM := (⟨"PointDeskModel", "best", "(I)I"⟩, prog_11_method_34_code, 4, some .int, 5, 116)
abbrev q_Mo_side : AM := (⟨"PointDeskModel", "side", "(II)J"⟩, prog_11_method_35_code, 3, some .long, 5, 116)
abbrev q_Mo_where : AM := (⟨"PointDeskModel", "where", "(II)I"⟩, prog_11_method_36_code, 3, some .int, 5, 116)
abbrev q_Mo_nearest : AM := (⟨"PointDeskModel", "nearest", "(II)I"⟩, prog_11_method_37_code, 5, some .int, 1, 23)
abbrev q_Mo_signOf : AM := (⟨"PointDeskModel", "signOf", "(J)I"⟩, prog_11_method_39_code, 2, some .int, 0, 0)
abbrev q_Mo_beside : AM := (⟨"PointDeskModel", "beside", "(III)I"⟩, prog_11_method_38_code, 6, some .int, 2, 47)
abbrev q_Mo_go : AM := (⟨"PointDeskModel", "go", "(I)I"⟩, prog_11_method_40_code, 2, some .int, 1, 21)
abbrev q_Mo_stop : AM := (⟨"PointDeskModel", "stop", "()I"⟩, prog_11_method_41_code, 2, some .int, 0, 0)
abbrev q_Mo_place : AM := (⟨"PointDeskModel", "place", "(I)I"⟩, prog_11_method_42_code, 2, some .int, 0, 0)
abbrev q_Mo_turn : AM := (⟨"PointDeskModel", "turn", "(II)V"⟩, prog_11_method_43_code, 5, none, 0, 0)
abbrev q_Mo_behind : AM := (⟨"PointDeskModel", "behind", "(I)I"⟩, prog_11_method_44_code, 2, some .int, 0, 0)
abbrev q_Mo_doMeet : AM := (⟨"PointDeskModel", "doMeet", "(IIII)Z"⟩, prog_11_method_45_code, 8, some .boolean, 0, 0)
abbrev q_Mo_doShare : AM := (⟨"PointDeskModel", "doShare", "(IIII)Z"⟩, prog_11_method_46_code, 6, some .boolean, 2, 47)
abbrev q_Mo_doOverlap : AM := (⟨"PointDeskModel", "doOverlap", "(III)Z"⟩, prog_11_method_47_code, 4, some .boolean, 2, 48)
abbrev q_Mo_doCross : AM := (⟨"PointDeskModel", "doCross", "(II)Z"⟩, prog_11_method_48_code, 7, some .boolean, 3, 72)
abbrev q_Mo_crossings : AM := (⟨"PointDeskModel", "crossings", "()I"⟩, prog_11_method_49_code, 4, some .int, 4, 98)
abbrev q_Mo_crossing : AM := (⟨"PointDeskModel", "crossing", "(I)I"⟩, prog_11_method_50_code, 5, some .int, 4, 98)
abbrev q_Mo_isSimple : AM := (⟨"PointDeskModel", "isSimple", "()Z"⟩, prog_11_method_51_code, 4, some .boolean, 4, 98)
abbrev q_Mo_simple : AM := (⟨"PointDeskModel", "simple", "()I"⟩, prog_11_method_52_code, 1, some .int, 5, 121)
abbrev q_Mo_roundOf : AM := (⟨"PointDeskModel", "roundOf", "()J"⟩, prog_11_method_53_code, 4, some .long, 2, 47)
abbrev q_Mo_round : AM := (⟨"PointDeskModel", "round", "()J"⟩, prog_11_method_54_code, 1, some .long, 3, 70)
abbrev q_Mo_inside : AM := (⟨"PointDeskModel", "inside", "(II)I"⟩, prog_11_method_55_code, 9, some .int, 5, 121)
abbrev q_Mo_leftFrom : AM := (⟨"PointDeskModel", "leftFrom", "(II)I"⟩, prog_11_method_56_code, 4, some .int, 0, 0)
abbrev q_Mo_isEar : AM := (⟨"PointDeskModel", "isEar", "(II)Z"⟩, prog_11_method_57_code, 10, some .boolean, 2, 47)
abbrev q_Mo_triangle : AM := (⟨"PointDeskModel", "triangle", "(I)I"⟩, prog_11_method_58_code, 6, some .int, 5, 121)
abbrev q_Mo_check : AM := (⟨"PointDeskModel", "check", "()I"⟩, prog_11_method_59_code, 1, some .int, 0, 0)
abbrev am_ms : List AM := [q_De_isInPlane, q_Po_append, q_De_add, q_Po_removeAll, q_Ro_removeAll, q_De_clear, q_Hu_takeAllIn, q_Hu_takesIn, q_Hu_isLower, q_Hu_lowest, q_Po_areAtOnePlace, q_Po_crossProduct, q_Po_squaredDistance, q_Hu_isBetter, q_Hu_cornerBehind, q_Hu_wrap, q_Hu_refresh, q_Po_dotProduct, q_Po_isOnSegment, q_Hu_cornerAfter, q_Hu_holds, q_Hu_leaveOut, q_La_takeOffBorder, q_La_refresh, q_Po_pairsAtOnePlace, q_Po_threesOnOneLine, q_De_count, q_Po_has, q_De_requirePoint, q_De_at, q_De_corner, q_Hu_twiceArea, q_De_area, q_De_layer, q_De_pair, q_De_distance, q_Hs_height, q_Hs_span, q_Hs_width, q_Hs_length, q_Wi_multiplyBy, q_Wi_setTo, q_Wi_isBelow, q_Hs_isLess, q_Hs_firstLeast, q_De_best, q_De_side, q_De_requireInPlane, q_Po_ask, q_De_where, q_De_nearest, q_Po_handOf, q_De_beside, q_Ro_append, q_De_go, q_De_stop, q_De_place, q_Ro_reverse, q_De_turn, q_Ro_placeAfter, q_Ro_pointAfter, q_Cr_foldsBack, q_Po_segmentsMeet, q_Cr_doCross, q_Ro_pointsAreApart, q_Cr_refresh, q_De_crossings, q_De_crossing, q_De_isRouteSimple, q_De_simple, q_Po_roundProduct, q_Ro_sumRound, q_De_round, q_Po_isSeenFrom, q_Ro_holds, q_De_inside, q_Tr_before, q_Tr_behind, q_Tr_turnInwards, q_Tr_isInTriangle, q_Tr_isEar, q_Tr_firstEar, q_Tr_keep, q_Tr_remove, q_Tr_cutAll, q_Tr_refresh, q_De_triangle, q_Hu_holdsAllPoints, q_Hu_sumRound, q_Tr_fillTheRoute, q_De_check, q_Mo_thrown, q_Mo_isFar, q_Mo_add, q_Mo_clear, q_Mo_c, q_Mo_turnOf, q_Mo_farOf, q_Mo_isSame, q_Mo_isAmong, q_Mo_isOn, q_Mo_next, q_Mo_follower, q_Mo_wrap, q_Mo_whereIs, q_Mo_markAll, q_Mo_hull, q_Mo_peel, q_Mo_lines, q_Mo_count, q_Mo_isPoint, q_Mo_at, q_Mo_corner, q_Mo_area, q_Mo_layer, q_Mo_pair, q_Mo_distance, q_Mo_heightOf, q_Mo_lengthOf, q_Mo_spanOf, q_Mo_times, q_Mo_product, q_Mo_isLess, q_Mo_best, q_Mo_side, q_Mo_where, q_Mo_nearest, q_Mo_signOf, q_Mo_beside, q_Mo_go, q_Mo_stop, q_Mo_place, q_Mo_turn, q_Mo_behind, q_Mo_doMeet, q_Mo_doShare, q_Mo_doOverlap, q_Mo_doCross, q_Mo_crossings, q_Mo_crossing, q_Mo_isSimple, q_Mo_simple, q_Mo_roundOf, q_Mo_round, q_Mo_inside, q_Mo_leftFrom, q_Mo_isEar, q_Mo_triangle, q_Mo_check]
abbrev am_mi (k : Nat) : AM := am_ms.getD k q_De_isInPlane
abbrev am_g (E : AE) (l : Launch) : AG := am_G am_Y am_cl E l am_Gw am_mi
end
