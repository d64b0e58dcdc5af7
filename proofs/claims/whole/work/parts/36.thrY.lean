/-! the class: what throws by its callees -/
set_option maxRecDepth 20000 in
set_option maxHeartbeats 2000000 in
theorem z_De_at_1 {E : AE} {l : Launch} {s0 : State} {h : AH} (h0 : tx_0 s0 E) (htr : l.stackTraces = false) {n : Nat} (hn : h 1 2 = (n : Int)) (hn2 : n ≤ 60) {i : Int} (i1 : -2147483648 ≤ i) (i2 : i < 2147483648) {w : Int} (hb : ¬ (0 ≤ i ∧ i < n)) {Qh : AH → Prop} (hQ : Qh h) : tm_g E l s0 29 tm_R2 tx_I [.inr (.inr 0), .inl i, .inl w] h Qh := by
  have hz := z_De_requirePoint h0 htr hn hn2 i1 i2 hb (Qh := Qh) hQ
  refine tm_met U_De_at (by decide) (Nat.le_of_ble_eq_true rfl) (fun pc _ S h' => pc = 2 ∧ S = [.inl i, .inr (.inr 0)] ∧ h' = h) ?_ ?_
  · rintro p e s m args below meth c C _ L _ h' ⟨rfl, rfl, rfl⟩
    exact tm_endV h0 C (Cn := R_De) (Tt := F_De) (N := 7) (idx := 94) (n := 1) (k' := 28) (R' := tm_R1) rfl (am_GV m_De_94 v_De_requirePoint.1 v_De_requirePoint.2.1 v_De_requirePoint.2.2.1 v_De_requirePoint.2.2.2) ⟨rfl, v_De_requirePointd⟩ (by decide) (by decide) (by decide +kernel) L [] _ 0 [.inl i] rfl (Nat.le_of_ble_eq_true rfl) rfl hz
  · intro J hJ hE
    refine hJ _ _ _ _ ?_
    refine hJ _ _ _ _ ?_
    exact hE _ _ _ _ ⟨rfl, rfl, rfl⟩
set_option maxRecDepth 20000 in
set_option maxHeartbeats 2000000 in
theorem z_De_distance_1 {E : AE} {l : Launch} {s0 : State} {h : AH} (h0 : tx_0 s0 E) (htr : l.stackTraces = false) {n : Nat} (hn : h 1 2 = (n : Int)) (hn2 : n ≤ 60) {i : Int} (i1 : -2147483648 ≤ i) (i2 : i < 2147483648) {k : Int} (hb : ¬ (0 ≤ i ∧ i < n)) {Qh : AH → Prop} (hQ : Qh h) : tm_g E l s0 35 tm_R2 tx_I [.inr (.inr 0), .inl i, .inl k] h Qh := by
  have hz := z_De_requirePoint h0 htr hn hn2 i1 i2 hb (Qh := Qh) hQ
  refine tm_met U_De_distance (by decide) (Nat.le_of_ble_eq_true rfl) (fun pc _ S h' => pc = 2 ∧ S = [.inl i, .inr (.inr 0)] ∧ h' = h) ?_ ?_
  · rintro p e s m args below meth c C _ L _ h' ⟨rfl, rfl, rfl⟩
    exact tm_endV h0 C (Cn := R_De) (Tt := F_De) (N := 7) (idx := 94) (n := 1) (k' := 28) (R' := tm_R1) rfl (am_GV m_De_94 v_De_requirePoint.1 v_De_requirePoint.2.1 v_De_requirePoint.2.2.1 v_De_requirePoint.2.2.2) ⟨rfl, v_De_requirePointd⟩ (by decide) (by decide) (by decide +kernel) L [] _ 0 [.inl i] rfl (Nat.le_of_ble_eq_true rfl) rfl hz
  · intro J hJ hE
    refine hJ _ _ _ _ ?_
    refine hJ _ _ _ _ ?_
    exact hE _ _ _ _ ⟨rfl, rfl, rfl⟩
set_option maxRecDepth 20000 in
set_option maxHeartbeats 2000000 in
theorem z_De_beside_1 {E : AE} {l : Launch} {s0 : State} {h : AH} (h0 : tx_0 s0 E) (htr : l.stackTraces = false) {n : Nat} (hn : h 1 2 = (n : Int)) (hn2 : n ≤ 60) {i : Int} (i1 : -2147483648 ≤ i) (i2 : i < 2147483648) {k w : Int} (hb : ¬ (0 ≤ i ∧ i < n)) {Qh : AH → Prop} (hQ : Qh h) : tm_g E l s0 52 tm_R2 tx_I [.inr (.inr 0), .inl i, .inl k, .inl w] h Qh := by
  have hz := z_De_requirePoint h0 htr hn hn2 i1 i2 hb (Qh := Qh) hQ
  refine tm_met U_De_beside (by decide) (Nat.le_of_ble_eq_true rfl) (fun pc _ S h' => pc = 2 ∧ S = [.inl i, .inr (.inr 0)] ∧ h' = h) ?_ ?_
  · rintro p e s m args below meth c C _ L _ h' ⟨rfl, rfl, rfl⟩
    exact tm_endV h0 C (Cn := R_De) (Tt := F_De) (N := 7) (idx := 94) (n := 1) (k' := 28) (R' := tm_R1) rfl (am_GV m_De_94 v_De_requirePoint.1 v_De_requirePoint.2.1 v_De_requirePoint.2.2.1 v_De_requirePoint.2.2.2) ⟨rfl, v_De_requirePointd⟩ (by decide) (by decide) (by decide +kernel) L [] _ 0 [.inl i] rfl (Nat.le_of_ble_eq_true rfl) rfl hz
  · intro J hJ hE
    refine hJ _ _ _ _ ?_
    refine hJ _ _ _ _ ?_
    exact hE _ _ _ _ ⟨rfl, rfl, rfl⟩
set_option maxRecDepth 20000 in
set_option maxHeartbeats 2000000 in
theorem z_De_distance_2 {E : AE} {l : Launch} {s0 : State} {h : AH} (h0 : tx_0 s0 E) (htr : l.stackTraces = false) {n : Nat} (hn : h 1 2 = (n : Int)) (hn2 : n ≤ 60) {i : Int} (i1 : 0 ≤ i) (i2 : i < n) {k : Int} (k1 : -2147483648 ≤ k) (k2 : k < 2147483648)  (hb : ¬ (0 ≤ k ∧ k < n)) {Qh : AH → Prop} (hQ : Qh h) : tm_g E l s0 35 tm_R2 tx_I [.inr (.inr 0), .inl i, .inl k] h Qh := by
  have hz := z_De_requirePoint h0 htr hn hn2 k1 k2 hb (Qh := Qh) hQ
  refine tm_met U_De_distance (by decide) (Nat.le_of_ble_eq_true rfl) (fun pc _ S h' => pc = 7 ∧ S = [.inl k, .inr (.inr 0)] ∧ h' = h) ?_ ?_
  · rintro p e s m args below meth c C _ L _ h' ⟨rfl, rfl, rfl⟩
    exact tm_endV h0 C (Cn := R_De) (Tt := F_De) (N := 7) (idx := 94) (n := 1) (k' := 28) (R' := tm_R1) rfl (am_GV m_De_94 v_De_requirePoint.1 v_De_requirePoint.2.1 v_De_requirePoint.2.2.1 v_De_requirePoint.2.2.2) ⟨rfl, v_De_requirePointd⟩ (by decide) (by decide) (by decide +kernel) L [] _ 0 [.inl k] rfl (Nat.le_of_ble_eq_true rfl) rfl hz
  · intro J hJ hE
    refine hJ _ _ _ _ ?_
    refine hJ _ _ _ _ ?_
    refine hJ _ _ _ _ ?_
    refine s_De_requirePoint hn hn2 i1 i2 ?_
    refine hJ _ _ _ _ ?_
    refine hJ _ _ _ _ ?_
    exact hE _ _ _ _ ⟨rfl, rfl, rfl⟩
set_option maxRecDepth 20000 in
set_option maxHeartbeats 2000000 in
theorem z_De_beside_2 {E : AE} {l : Launch} {s0 : State} {h : AH} (h0 : tx_0 s0 E) (htr : l.stackTraces = false) {n : Nat} (hn : h 1 2 = (n : Int)) (hn2 : n ≤ 60) {i : Int} (i1 : 0 ≤ i) (i2 : i < n) {k : Int} (k1 : -2147483648 ≤ k) (k2 : k < 2147483648) {w : Int} (hb : ¬ (0 ≤ k ∧ k < n)) {Qh : AH → Prop} (hQ : Qh h) : tm_g E l s0 52 tm_R2 tx_I [.inr (.inr 0), .inl i, .inl k, .inl w] h Qh := by
  have hz := z_De_requirePoint h0 htr hn hn2 k1 k2 hb (Qh := Qh) hQ
  refine tm_met U_De_beside (by decide) (Nat.le_of_ble_eq_true rfl) (fun pc _ S h' => pc = 7 ∧ S = [.inl k, .inr (.inr 0)] ∧ h' = h) ?_ ?_
  · rintro p e s m args below meth c C _ L _ h' ⟨rfl, rfl, rfl⟩
    exact tm_endV h0 C (Cn := R_De) (Tt := F_De) (N := 7) (idx := 94) (n := 1) (k' := 28) (R' := tm_R1) rfl (am_GV m_De_94 v_De_requirePoint.1 v_De_requirePoint.2.1 v_De_requirePoint.2.2.1 v_De_requirePoint.2.2.2) ⟨rfl, v_De_requirePointd⟩ (by decide) (by decide) (by decide +kernel) L [] _ 0 [.inl k] rfl (Nat.le_of_ble_eq_true rfl) rfl hz
  · intro J hJ hE
    refine hJ _ _ _ _ ?_
    refine hJ _ _ _ _ ?_
    refine hJ _ _ _ _ ?_
    refine s_De_requirePoint hn hn2 i1 i2 ?_
    refine hJ _ _ _ _ ?_
    refine hJ _ _ _ _ ?_
    exact hE _ _ _ _ ⟨rfl, rfl, rfl⟩
set_option maxRecDepth 20000 in
set_option maxHeartbeats 2000000 in
theorem z_De_at_2 {E : AE} {l : Launch} {s0 : State} {h : AH} (h0 : tx_0 s0 E) (htr : l.stackTraces = false) {n : Nat} (hn : h 1 2 = (n : Int)) (hn2 : n ≤ 60) {i : Int} (i1 : 0 ≤ i) (i2 : i < n) {w : Int} (w1 : -2147483648 ≤ w) (w2 : w < 2147483648) (hb : w ≠ 0 ∧ w ≠ 1) {Qh : AH → Prop} (hQ : Qh h) : tm_g E l s0 29 tm_R2 tx_A [.inr (.inr 0), .inl i, .inl w] h Qh := by
  refine tm_met U_De_at (by decide) (Nat.le_of_ble_eq_true rfl) (fun pc _ S h' => pc = 14 ∧ S = [] ∧ Qh h') ?_ ?_
  · rintro p e s m args below meth c C _ L _ h' ⟨rfl, rfl, hq⟩
    exact tm_endN h0 htr C rfl (.inr ⟨rfl, rfl⟩) tw_A.1 tw_A.2 (ist := 100) (tx := "no such number of a point") (by simp) (by decide) (by decide +kernel) (by decide +kernel) (by decide +kernel) (by decide +kernel) (by decide +kernel) L h' hq
  · intro J hJ hE
    have hE : ∀ L h', Qh h' → J 14 L [] h' := fun L h' hq => hE 14 L [] h' ⟨rfl, rfl, hq⟩
    repeat (first | exact hE _ _ hQ | refine hJ _ _ _ _ ?_ | refine And.intro (by omega) (fun _ => ?_) | refine And.intro (by omega) ?_ | refine And.intro (fun _ => ?_) (by omega))
    refine s_De_requirePoint hn hn2 i1 i2 ?_
    repeat (first | exact hE _ _ hQ | refine hJ _ _ _ _ ?_ | refine And.intro (by omega) (fun _ => ?_) | refine And.intro (by omega) ?_ | refine And.intro (fun _ => ?_) (by omega))
set_option maxRecDepth 20000 in
set_option maxHeartbeats 2000000 in
theorem z_De_where {E : AE} {l : Launch} {s0 : State} {h : AH} (h0 : tx_0 s0 E) (htr : l.stackTraces = false) {x : Int} (x1 : -2147483648 ≤ x) (x2 : x < 2147483648) {y : Int} (y1 : -2147483648 ≤ y) (y2 : y < 2147483648) (hb : ¬ pd_in x y) {Qh : AH → Prop} (hQ : Qh h) : tm_g E l s0 49 tm_R2 tx_A [.inr (.inr 0), .inl x, .inl y] h Qh := by
  have hz := z_De_requireInPlane h0 htr x1 x2 y1 y2 hb (Qh := Qh) hQ
  refine tm_met U_De_where (by decide) (Nat.le_of_ble_eq_true rfl) (fun pc _ S h' => pc = 2 ∧ S = [.inl y, .inl x] ∧ h' = h) ?_ ?_
  · rintro p e s m args below meth c C _ L _ h' ⟨rfl, rfl, rfl⟩
    exact tm_endS h0 C (idx := 151) (n := 2) (k' := 47) (R' := tm_R1) (am_GS m_De_151 v_De_requireInPlane.1 v_De_requireInPlane.2.1 v_De_requireInPlane.2.2) ⟨rfl, v_De_requireInPlaned⟩ (by decide) (by decide) (by decide +kernel) L [] _ [.inl x, .inl y] (Nat.le_of_ble_eq_true rfl) rfl hz
  · intro J hJ hE
    refine hJ _ _ _ _ ?_
    refine hJ _ _ _ _ ?_
    exact hE _ _ _ _ ⟨rfl, rfl, rfl⟩
set_option maxRecDepth 20000 in
set_option maxHeartbeats 2000000 in
theorem z_De_nearest {E : AE} {l : Launch} {s0 : State} {h : AH} (h0 : tx_0 s0 E) (htr : l.stackTraces = false) {x : Int} (x1 : -2147483648 ≤ x) (x2 : x < 2147483648) {y : Int} (y1 : -2147483648 ≤ y) (y2 : y < 2147483648) (hb : ¬ pd_in x y) {Qh : AH → Prop} (hQ : Qh h) : tm_g E l s0 50 tm_R2 tx_A [.inr (.inr 0), .inl x, .inl y] h Qh := by
  have hz := z_De_requireInPlane h0 htr x1 x2 y1 y2 hb (Qh := Qh) hQ
  refine tm_met U_De_nearest (by decide) (Nat.le_of_ble_eq_true rfl) (fun pc _ S h' => pc = 2 ∧ S = [.inl y, .inl x] ∧ h' = h) ?_ ?_
  · rintro p e s m args below meth c C _ L _ h' ⟨rfl, rfl, rfl⟩
    exact tm_endS h0 C (idx := 151) (n := 2) (k' := 47) (R' := tm_R1) (am_GS m_De_151 v_De_requireInPlane.1 v_De_requireInPlane.2.1 v_De_requireInPlane.2.2) ⟨rfl, v_De_requireInPlaned⟩ (by decide) (by decide) (by decide +kernel) L [] _ [.inl x, .inl y] (Nat.le_of_ble_eq_true rfl) rfl hz
  · intro J hJ hE
    refine hJ _ _ _ _ ?_
    refine hJ _ _ _ _ ?_
    exact hE _ _ _ _ ⟨rfl, rfl, rfl⟩
set_option maxRecDepth 20000 in
set_option maxHeartbeats 2000000 in
theorem z_De_inside {E : AE} {l : Launch} {s0 : State} {h : AH} (h0 : tx_0 s0 E) (htr : l.stackTraces = false) {x : Int} (x1 : -2147483648 ≤ x) (x2 : x < 2147483648) {y : Int} (y1 : -2147483648 ≤ y) (y2 : y < 2147483648) (hb : ¬ pd_in x y) {Qh : AH → Prop} (hQ : Qh h) : tm_g E l s0 75 tm_R2 tx_A [.inr (.inr 0), .inl x, .inl y] h Qh := by
  have hz := z_De_requireInPlane h0 htr x1 x2 y1 y2 hb (Qh := Qh) hQ
  refine tm_met U_De_inside (by decide) (Nat.le_of_ble_eq_true rfl) (fun pc _ S h' => pc = 2 ∧ S = [.inl y, .inl x] ∧ h' = h) ?_ ?_
  · rintro p e s m args below meth c C _ L _ h' ⟨rfl, rfl, rfl⟩
    exact tm_endS h0 C (idx := 151) (n := 2) (k' := 47) (R' := tm_R1) (am_GS m_De_151 v_De_requireInPlane.1 v_De_requireInPlane.2.1 v_De_requireInPlane.2.2) ⟨rfl, v_De_requireInPlaned⟩ (by decide) (by decide) (by decide +kernel) L [] _ [.inl x, .inl y] (Nat.le_of_ble_eq_true rfl) rfl hz
  · intro J hJ hE
    refine hJ _ _ _ _ ?_
    refine hJ _ _ _ _ ?_
    exact hE _ _ _ _ ⟨rfl, rfl, rfl⟩
set_option maxRecDepth 20000 in
set_option maxHeartbeats 2000000 in
theorem z_De_side_1 {E : AE} {l : Launch} {s0 : State} {h : AH} (h0 : tx_0 s0 E) (htr : l.stackTraces = false) {i : Int} (i1 : -2147483648 ≤ i) (i2 : i < 2147483648) {w : Int} {Qh : AH → Prop} (hr : am_g E l 16 [.inr (.inr 4)] h (fun r h' => r = none ∧ Qh h' ∧ 0 ≤ h' 4 3 ∧ h' 4 3 ≤ 60 ∧ (h' 4 3 < 3 ∨ i < 0 ∨ h' 4 3 ≤ i))) : tm_g E l s0 46 tm_R2 tx_I [.inr (.inr 0), .inl i, .inl w] h Qh := by
  refine tm_met U_De_side (by decide) (Nat.le_of_ble_eq_true rfl) (fun pc _ S h' => pc = 33 ∧ S = [] ∧ Qh h') ?_ ?_
  · rintro p e s m args below meth c C _ L _ h' ⟨rfl, rfl, hq⟩
    exact tm_endN h0 htr C rfl (.inl ⟨rfl, rfl⟩) tw_I.1 tw_I.2 (ist := 136) (tx := "no such side of the hull") (by simp) (by decide) (by decide +kernel) (by decide +kernel) (by decide +kernel) (by decide +kernel) (by decide +kernel) L h' hq
  · intro J hJ hE
    have hE : ∀ L h', Qh h' → J 33 L [] h' := fun L h' hq => hE 33 L [] h' ⟨rfl, rfl, hq⟩
    refine hJ _ _ _ _ ?_
    refine hJ _ _ _ _ ?_
    refine hJ _ _ _ _ ?_
    refine am_g_mono hr ?_
    rintro _ h' ⟨rfl, hQ, g1, g2, g3⟩
    refine hJ _ _ _ _ ?_
    repeat (first | exact hE _ _ hQ | refine hJ _ _ _ _ ?_ | refine And.intro (by omega) (fun _ => ?_) | refine And.intro (by omega) ?_ | refine And.intro (fun _ => ?_) (by omega))
    refine And.intro (fun hx => ?_) (fun hx => ?_)
    · repeat (first | exact hE _ _ hQ | refine hJ _ _ _ _ ?_ | refine And.intro (by omega) (fun _ => ?_) | refine And.intro (by omega) ?_ | refine And.intro (fun _ => ?_) (by omega))
    · repeat (first | exact hE _ _ hQ | refine hJ _ _ _ _ ?_ | refine And.intro (by omega) (fun _ => ?_) | refine And.intro (by omega) ?_ | refine And.intro (fun _ => ?_) (by omega))
      refine And.intro (fun hy => ?_) (fun hy => ?_)
      · repeat (first | exact hE _ _ hQ | refine hJ _ _ _ _ ?_ | refine And.intro (by omega) (fun _ => ?_) | refine And.intro (by omega) ?_ | refine And.intro (fun _ => ?_) (by omega))
      · repeat (first | exact hE _ _ hQ | refine hJ _ _ _ _ ?_ | refine And.intro (by omega) (fun _ => ?_) | refine And.intro (by omega) ?_ | refine And.intro (fun _ => ?_) (by omega))
set_option maxRecDepth 20000 in
set_option maxHeartbeats 2000000 in
theorem z_De_side_2 {E : AE} {l : Launch} {s0 : State} {h : AH} (h0 : tx_0 s0 E) (htr : l.stackTraces = false) {i : Int} {w : Int} (w1 : -2147483648 ≤ w) (w2 : w < 2147483648) (hw : w < 0 ∨ 2 < w) {Qh : AH → Prop} (hr : am_g E l 16 [.inr (.inr 4)] h (fun r h' => r = none ∧ Qh h' ∧ 3 ≤ h' 4 3 ∧ h' 4 3 ≤ 60 ∧ 0 ≤ i ∧ i < h' 4 3)) : tm_g E l s0 46 tm_R2 tx_A [.inr (.inr 0), .inl i, .inl w] h Qh := by
  refine tm_met U_De_side (by decide) (Nat.le_of_ble_eq_true rfl) (fun pc _ S h' => pc = 99 ∧ S = [] ∧ Qh h') ?_ ?_
  · rintro p e s m args below meth c C _ L _ h' ⟨rfl, rfl, hq⟩
    exact tm_endN h0 htr C rfl (.inr ⟨rfl, rfl⟩) tw_A.1 tw_A.2 (ist := 149) (tx := "no such number of a side") (by simp) (by decide) (by decide +kernel) (by decide +kernel) (by decide +kernel) (by decide +kernel) (by decide +kernel) L h' hq
  · intro J hJ hE
    have hE : ∀ L h', Qh h' → J 99 L [] h' := fun L h' hq => hE 99 L [] h' ⟨rfl, rfl, hq⟩
    refine hJ _ _ _ _ ?_
    refine hJ _ _ _ _ ?_
    refine hJ _ _ _ _ ?_
    refine am_g_mono hr ?_
    rintro _ h' ⟨rfl, hQ, g1, g2, g3, g4⟩
    refine hJ _ _ _ _ ?_
    repeat (first | exact hE _ _ hQ | refine hJ _ _ _ _ ?_ | refine And.intro (by omega) (fun _ => ?_) | refine And.intro (by omega) ?_ | refine And.intro (fun _ => ?_) (by omega))
    refine And.intro (fun _ => hE _ _ hQ) ⟨fun g => by omega, fun g => by omega, fun g => by omega, trivial⟩
