/-! printed: the law's loop -/
abbrev lo_r (x : Int) : Prop := -2147483648 ≤ x ∧ x < 2147483648
/-- add -/
def op_add (E : AE) (l : Launch) (s0 : State) (I : AH → Prop) (h : AH) : Prop := ∀ x : Int, lo_r x → ∀ y : Int, lo_r y → lo_I E l 2 93 [.inl x, .inl y] I h
/-- clear -/
def op_clear (E : AE) (l : Launch) (s0 : State) (I : AH → Prop) (h : AH) : Prop := lo_I E l 5 94 [] I h
/-- count -/
def op_count (E : AE) (l : Launch) (s0 : State) (I : AH → Prop) (h : AH) : Prop := ∀ x : Int, lo_r x → lo_I E l 26 109 [.inl x] I h
/-- at -/
def op_at (E : AE) (l : Launch) (s0 : State) (I : AH → Prop) (h : AH) : Prop := ∀ x : Int, lo_r x → ∀ y : Int, lo_r y → lo_H E l s0 q_L_at 111 [.inl x, .inl y] I h
/-- corner -/
def op_corner (E : AE) (l : Launch) (s0 : State) (I : AH → Prop) (h : AH) : Prop := ∀ x : Int, lo_r x → lo_I E l 30 112 [.inl x] I h
/-- area -/
def op_area (E : AE) (l : Launch) (s0 : State) (I : AH → Prop) (h : AH) : Prop := lo_W E l 32 113 [] I h
/-- layer -/
def op_layer (E : AE) (l : Launch) (s0 : State) (I : AH → Prop) (h : AH) : Prop := ∀ x : Int, lo_r x → lo_I E l 33 114 [.inl x] I h
/-- pair -/
def op_pair (E : AE) (l : Launch) (s0 : State) (I : AH → Prop) (h : AH) : Prop := ∀ x : Int, lo_r x → lo_I E l 34 115 [.inl x] I h
/-- distance -/
def op_distance (E : AE) (l : Launch) (s0 : State) (I : AH → Prop) (h : AH) : Prop := ∀ x : Int, lo_r x → ∀ y : Int, lo_r y → lo_HL E l s0 q_L_distance 116 [.inl x, .inl y] I h
/-- best -/
def op_best (E : AE) (l : Launch) (s0 : State) (I : AH → Prop) (h : AH) : Prop := ∀ x : Int, lo_r x → lo_I E l 45 123 [.inl x] I h
/-- side -/
def op_side (E : AE) (l : Launch) (s0 : State) (I : AH → Prop) (h : AH) : Prop := ∀ x : Int, lo_r x → ∀ y : Int, lo_r y → lo_HL E l s0 q_L_side 124 [.inl x, .inl y] I h
/-- where -/
def op_where (E : AE) (l : Launch) (s0 : State) (I : AH → Prop) (h : AH) : Prop := ∀ x : Int, lo_r x → ∀ y : Int, lo_r y → lo_H E l s0 q_L_where 125 [.inl x, .inl y] I h
/-- nearest -/
def op_nearest (E : AE) (l : Launch) (s0 : State) (I : AH → Prop) (h : AH) : Prop := ∀ x : Int, lo_r x → ∀ y : Int, lo_r y → lo_H E l s0 q_L_nearest 126 [.inl x, .inl y] I h
/-- beside -/
def op_beside (E : AE) (l : Launch) (s0 : State) (I : AH → Prop) (h : AH) : Prop := ∀ x : Int, lo_r x → ∀ y : Int, lo_r y → ∀ z : Int, lo_r z → lo_H E l s0 q_L_beside 128 [.inl x, .inl y, .inl z] I h
/-- go -/
def op_go (E : AE) (l : Launch) (s0 : State) (I : AH → Prop) (h : AH) : Prop := ∀ x : Int, lo_r x → lo_I E l 54 129 [.inl x] I h
/-- stop -/
def op_stop (E : AE) (l : Launch) (s0 : State) (I : AH → Prop) (h : AH) : Prop := lo_I E l 55 130 [] I h
/-- place -/
def op_place (E : AE) (l : Launch) (s0 : State) (I : AH → Prop) (h : AH) : Prop := ∀ x : Int, lo_r x → lo_I E l 56 131 [.inl x] I h
/-- turn -/
def op_turn (E : AE) (l : Launch) (s0 : State) (I : AH → Prop) (h : AH) : Prop := ∀ x : Int, lo_r x → ∀ y : Int, lo_r y → lo_HV E l s0 q_L_turn 132 [.inl x, .inl y] I h
/-- crossings -/
def op_crossings (E : AE) (l : Launch) (s0 : State) (I : AH → Prop) (h : AH) : Prop := lo_I E l 66 138 [] I h
/-- crossing -/
def op_crossing (E : AE) (l : Launch) (s0 : State) (I : AH → Prop) (h : AH) : Prop := ∀ x : Int, lo_r x → lo_I E l 67 139 [.inl x] I h
/-- simple -/
def op_simple (E : AE) (l : Launch) (s0 : State) (I : AH → Prop) (h : AH) : Prop := lo_I E l 69 141 [] I h
/-- round -/
def op_round (E : AE) (l : Launch) (s0 : State) (I : AH → Prop) (h : AH) : Prop := lo_W E l 72 143 [] I h
/-- inside -/
def op_inside (E : AE) (l : Launch) (s0 : State) (I : AH → Prop) (h : AH) : Prop := ∀ x : Int, lo_r x → ∀ y : Int, lo_r y → lo_H E l s0 q_L_inside 144 [.inl x, .inl y] I h
/-- triangle -/
def op_triangle (E : AE) (l : Launch) (s0 : State) (I : AH → Prop) (h : AH) : Prop := ∀ x : Int, lo_r x → lo_I E l 86 147 [.inl x] I h
/-- check -/
def op_check (E : AE) (l : Launch) (s0 : State) (I : AH → Prop) (h : AH) : Prop := lo_I E l 90 148 [] I h
def op_all (E : AE) (l : Launch) (s0 : State) (I : AH → Prop) (h : AH) : Prop := op_add E l s0 I h ∧ op_clear E l s0 I h ∧ op_count E l s0 I h ∧ op_at E l s0 I h ∧ op_corner E l s0 I h ∧ op_area E l s0 I h ∧ op_layer E l s0 I h ∧ op_pair E l s0 I h ∧ op_distance E l s0 I h ∧ op_best E l s0 I h ∧ op_side E l s0 I h ∧ op_where E l s0 I h ∧ op_nearest E l s0 I h ∧ op_beside E l s0 I h ∧ op_go E l s0 I h ∧ op_stop E l s0 I h ∧ op_place E l s0 I h ∧ op_turn E l s0 I h ∧ op_crossings E l s0 I h ∧ op_crossing E l s0 I h ∧ op_simple E l s0 I h ∧ op_round E l s0 I h ∧ op_inside E l s0 I h ∧ op_triangle E l s0 I h ∧ op_check E l s0 I h
theorem lo_rx (xs : Nat → Int32) (i k : Int) : lo_r (lo_x xs i k) := by
  have h1 := (xs (i + k).toNat).le_toInt
  have h2 := (xs (i + k).toNat).toInt_lt
  exact ⟨by simpa using h1, by simpa using h2⟩
set_option maxRecDepth 20000 in
set_option maxHeartbeats 8000000 in
theorem lj_loop {E : AE} {l : Launch} {p : Program} {e : Env} {s : State} {m : MethodId} {below : List Frame} {meth : Method} {c : Code} {len : Nat} {xs : Nat → Int32} (C : lj_C E p s m meth c len xs) {I : Nat → AH → Prop} (hmono : ∀ n h, I n h → I (n + 1) h) (hops : ∀ n h, n ≤ 512 → I n h → op_all E l s (I (n + 1)) h) : ∀ d n : Nat, n + d = 513 → ∀ h, I n h → lj_J E l p e s m below meth c n 23 (lo_L (4 * (n : Int))) [] h := by
  have hlen : len ≤ 2048 := C.2.2.2.2.2
  intro d
  induction d with
  | zero =>
    intro n hn h hI
    have hJ := lj_close (Lltb_h (l := l) (e := e) (below := below) (n := n) C (by omega))
    repeat (first | refine hJ _ _ _ _ ?_ | refine And.intro (by omega) (fun _ => ?_) | refine And.intro (by omega) ?_ | refine And.intro (fun _ => ?_) (by omega))
    rfl
  | succ d ih =>
    intro n hn h hI
    have hJ := lj_close (Lltb_h (l := l) (e := e) (below := below) (n := n) C (by omega))
    have hnext : ∀ (x y z : Option AV) (h' : AH), I (n + 1) h' → lj_J E l p e s m below meth c (n + 1) 1041 [some (.inr (.inr 1000)), some (.inr (.inr 0)), some (.inr (.inr 24)), some (.inr (.inr 34)), some (.inl (4 * (n : Int))), x, y, z] [] h' := by
      intro x y z h' hI'
      refine lj_weak (L' := lo_L (4 * (n : Int))) ?_ ?_
      · intro j w hj
        match j, hj with
        | 0, hj => exact hj
        | 1, hj => exact hj
        | 2, hj => exact hj
        | 3, hj => exact hj
        | 4, hj => exact hj
        | 5, hj => simp at hj
        | 6, hj => simp at hj
        | 7, hj => simp at hj
        | j + 8, hj => simp at hj
      · have hJ := lj_close (Lltb_h (l := l) (e := e) (below := below) (n := n + 1) C (by omega))
        have this := ih (n + 1) (by omega) h' hI'
        rw [show 4 * ((n + 1 : Nat) : Int) = 4 * (n : Int) + 4 by omega] at this
        refine hJ _ _ _ _ ?_
        refine hJ _ _ _ _ ?_
        exact this
    have hend : ∀ h', I (n + 1) h' → lj_J E l p e s m below meth c n 1041 (lo_L (4 * (n : Int))) [] h' := fun h' hI' => lj_wide (hnext none none none h' hI')
    have op := hops n h (by omega) hI
    unfold op_all at op
    refine hJ _ _ _ _ ?_
    refine hJ _ _ _ _ ?_
    refine hJ _ _ _ _ ?_
    refine hJ _ _ _ _ ?_
    refine hJ _ _ _ _ ?_
    refine hJ _ _ _ _ ?_
    refine And.intro (by omega) (And.intro (fun hc => ?_) (fun hc => ?_))
    · refine hJ _ _ _ _ ?_
      refine hJ _ _ _ _ ?_
      rfl
    · have i1 : 0 ≤ 4 * (n : Int) := by omega
      have i2 : 4 * (n : Int) + 3 < len := by omega
      refine hJ _ _ _ _ ?_
      refine hJ _ _ _ _ ?_
      refine hJ _ _ _ _ ?_
      refine And.intro (by omega) ?_
      refine hJ _ _ _ _ ?_
      refine hJ _ _ _ _ ?_
      refine And.intro rfl (fun v v1 v2 => ?_)
      refine hJ _ _ _ _ ?_
      refine And.intro (by omega) (And.intro (fun _ => hend h (hmono n h hI)) ?_)
      clear hJ
      obtain ⟨o0, o1, o2, o3, o4, o5, o6, o7, o8, o9, o10, o11, o12, o13, o14, o15, o16, o17, o18, o19, o20, o21, o22, o23, o24⟩ := op
      refine And.intro (fun _ => ?_) ?_
      · exact lo_0 (lj_close (Lltb_0 C (by omega))) i1 i2 hlen (o0 _ (lo_rx xs _ 1) _ (lo_rx xs _ 2)) hend
      refine And.intro (fun _ => ?_) ?_
      · exact lo_1 (lj_close (Lltb_1 C (by omega))) i1 i2 hlen (o1) hend
      refine And.intro (fun _ => ?_) ?_
      · exact lo_2 (lj_close (Lltb_2 C (by omega))) i1 i2 hlen (o2 _ (lo_rx xs _ 1)) hend
      refine And.intro (fun _ => ?_) ?_
      · exact lo_3 (s0 := s) (lj_close (Lltb_3 C (by omega))) (lj_close (Lltb_3 C (by omega))) i1 i2 hlen (fun h' hM => lj_help (k := 4) C (by omega) rfl mL_59 s_L_at c_L_at (by decide +kernel) (by decide) (by decide +kernel) (S' := []) (Nat.zero_le _) rfl hM) (o3 _ (lo_rx xs _ 1) _ (lo_rx xs _ 2)) hnext
      refine And.intro (fun _ => ?_) ?_
      · exact lo_4 (lj_close (Lltb_4 C (by omega))) i1 i2 hlen (o4 _ (lo_rx xs _ 1)) hend
      refine And.intro (fun _ => ?_) ?_
      · exact lo_5 (lj_close (Lltb_5 C (by omega))) i1 i2 hlen (o5) hend
      refine And.intro (fun _ => ?_) ?_
      · exact lo_6 (lj_close (Lltb_6 C (by omega))) i1 i2 hlen (o6 _ (lo_rx xs _ 1)) hend
      refine And.intro (fun _ => ?_) ?_
      · exact lo_7 (lj_close (Lltb_7 C (by omega))) i1 i2 hlen (o7 _ (lo_rx xs _ 1)) hend
      refine And.intro (fun _ => ?_) ?_
      · exact lo_8 (s0 := s) (lj_close (Lltb_8 C (by omega))) (lj_close (Lltb_8 C (by omega))) i1 i2 hlen (fun h' hM => lj_help (k := 4) C (by omega) rfl mL_85 s_L_distance c_L_distance (by decide +kernel) (by decide) (by decide +kernel) (S' := []) (Nat.zero_le _) rfl hM) (o8 _ (lo_rx xs _ 1) _ (lo_rx xs _ 2)) hnext
      refine And.intro (fun _ => ?_) ?_
      · exact lo_9 (lj_close (Lltb_9 C (by omega))) i1 i2 hlen (o9 _ (lo_rx xs _ 1)) hend
      refine And.intro (fun _ => ?_) ?_
      · exact lo_10 (s0 := s) (lj_close (Lltb_10 C (by omega))) (lj_close (Lltb_10 C (by omega))) i1 i2 hlen (fun h' hM => lj_help (k := 4) C (by omega) rfl mL_92 s_L_side c_L_side (by decide +kernel) (by decide) (by decide +kernel) (S' := []) (Nat.zero_le _) rfl hM) (o10 _ (lo_rx xs _ 1) _ (lo_rx xs _ 2)) hnext
      refine And.intro (fun _ => ?_) ?_
      · exact lo_11 (s0 := s) (lj_close (Lltb_11 C (by omega))) (lj_close (Lltb_11 C (by omega))) i1 i2 hlen (fun h' hM => lj_help (k := 4) C (by omega) rfl mL_95 s_L_where c_L_where (by decide +kernel) (by decide) (by decide +kernel) (S' := []) (Nat.zero_le _) rfl hM) (o11 _ (lo_rx xs _ 1) _ (lo_rx xs _ 2)) hnext
      refine And.intro (fun _ => ?_) ?_
      · exact lo_12 (s0 := s) (lj_close (Lltb_12 C (by omega))) (lj_close (Lltb_12 C (by omega))) i1 i2 hlen (fun h' hM => lj_help (k := 4) C (by omega) rfl mL_98 s_L_nearest c_L_nearest (by decide +kernel) (by decide) (by decide +kernel) (S' := []) (Nat.zero_le _) rfl hM) (o12 _ (lo_rx xs _ 1) _ (lo_rx xs _ 2)) hnext
      refine And.intro (fun _ => ?_) ?_
      · exact lo_13 (s0 := s) (lj_close (Lltb_13 C (by omega))) (lj_close (Lltb_13 C (by omega))) i1 i2 hlen (fun h' hM => lj_help (k := 5) C (by omega) rfl mL_101 s_L_beside c_L_beside (by decide +kernel) (by decide) (by decide +kernel) (S' := []) (Nat.zero_le _) rfl hM) (o13 _ (lo_rx xs _ 1) _ (lo_rx xs _ 2) _ (lo_rx xs _ 3)) hnext
      refine And.intro (fun _ => ?_) ?_
      · exact lo_14 (lj_close (Lltb_14 C (by omega))) i1 i2 hlen (o14 _ (lo_rx xs _ 1)) hend
      refine And.intro (fun _ => ?_) ?_
      · exact lo_15 (lj_close (Lltb_15 C (by omega))) i1 i2 hlen (o15) hend
      refine And.intro (fun _ => ?_) ?_
      · exact lo_16 (lj_close (Lltb_16 C (by omega))) i1 i2 hlen (o16 _ (lo_rx xs _ 1)) hend
      refine And.intro (fun _ => ?_) ?_
      · exact lo_17 (s0 := s) (lj_close (Lltb_17 C (by omega))) (lj_close (Lltb_17 C (by omega))) i1 i2 hlen (fun h' hM => lj_help (k := 3) C (by omega) rfl mL_117 s_L_turn c_L_turn (by decide +kernel) (by decide) (by decide +kernel) (S' := []) (Nat.zero_le _) rfl hM) (o17 _ (lo_rx xs _ 1) _ (lo_rx xs _ 2)) hnext
      refine And.intro (fun _ => ?_) ?_
      · exact lo_18 (lj_close (Lltb_18 C (by omega))) i1 i2 hlen (o18) hend
      refine And.intro (fun _ => ?_) ?_
      · exact lo_19 (lj_close (Lltb_19 C (by omega))) i1 i2 hlen (o19 _ (lo_rx xs _ 1)) hend
      refine And.intro (fun _ => ?_) ?_
      · exact lo_20 (lj_close (Lltb_20 C (by omega))) i1 i2 hlen (o20) hend
      refine And.intro (fun _ => ?_) ?_
      · exact lo_21 (lj_close (Lltb_21 C (by omega))) i1 i2 hlen (o21) hend
      refine And.intro (fun _ => ?_) ?_
      · exact lo_22 (s0 := s) (lj_close (Lltb_22 C (by omega))) (lj_close (Lltb_22 C (by omega))) i1 i2 hlen (fun h' hM => lj_help (k := 4) C (by omega) rfl mL_137 s_L_inside c_L_inside (by decide +kernel) (by decide) (by decide +kernel) (S' := []) (Nat.zero_le _) rfl hM) (o22 _ (lo_rx xs _ 1) _ (lo_rx xs _ 2)) hnext
      refine And.intro (fun _ => ?_) ?_
      · exact lo_23 (lj_close (Lltb_23 C (by omega))) i1 i2 hlen (o23 _ (lo_rx xs _ 1)) hend
      refine And.intro (fun _ => ?_) ?_
      · exact lo_24 (lj_close (Lltb_24 C (by omega))) i1 i2 hlen (o24) hend
      trivial
