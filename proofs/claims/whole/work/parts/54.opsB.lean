/-! calls: at, distance -/
set_option maxRecDepth 20000 in
set_option maxHeartbeats 2000000 in
theorem c_at_0 {E : AE} {l : Launch} {k n m : Nat} {pt : Nat → ge_P} {rt : Nat → Nat} {rg : Nat → ge_P} {h : AH} (C : ic k n m pt rt rg h) {i w : Int} (i1 : 0 ≤ i) (i2 : i < n) (hw : w = 0 ∨ w = 1) : am_g E l 29 [.inr (.inr 0), .inl i, .inl w] h (cq (k + 1) n m pt rt rg h (some (.inl (if w = 0 then (pt i.toNat).1 else (pt i.toNat).2)))) := by
  have hC : ∀ v, cq (k + 1) n m pt rt rg h v v h := fun v => ⟨rfl, fun _ _ => rfl, ic_mono C (by omega)⟩
  have ep := ic_p C i1 i2
  have p1 := C.1.1
  have p2 := C.1.2.1
  refine am_met T_De_at (by decide) (Nat.le_of_ble_eq_true rfl) (fun J hJ => ?_)
  repeat (first | refine hJ _ _ _ _ ?_ | refine And.intro (by omega) (fun _ => ?_) | refine And.intro (by omega) ?_ | refine And.intro (fun _ => ?_) (by omega))
  refine s_De_requirePoint p1 p2 i1 i2 ?_
  rcases hw with rfl | rfl
  · repeat (first | refine hJ _ _ _ _ ?_ | refine And.intro (by omega) (fun _ => ?_) | refine And.intro (by omega) ?_ | refine And.intro (fun _ => ?_) (by omega))
    rw [if_pos rfl, ← ep]
    exact hC _
  · repeat (first | refine hJ _ _ _ _ ?_ | refine And.intro (by omega) (fun _ => ?_) | refine And.intro (by omega) ?_ | refine And.intro (fun _ => ?_) (by omega))
    rw [if_neg (show ¬ (1 : Int) = 0 by decide), ← ep]
    exact hC _
set_option maxRecDepth 20000 in
set_option maxHeartbeats 2000000 in
theorem m_at_0 {E : AE} {l : Launch} {n m : Nat} {pt : Nat → ge_P} {rt : Nat → Nat} {h : AH} (R : ir n m pt rt h) {i w : Int} (i1 : 0 ≤ i) (i2 : i < n) (hw : w = 0 ∨ w = 1) : am_g E l 111 [.inr (.inr 24), .inl i, .inl w] h (rq n m pt rt h 0 (some (.inl (if w = 0 then (pt i.toNat).1 else (pt i.toNat).2)))) := by
  have hQ : ∀ v, rq n m pt rt h 0 v v (am_up h 24 0 0) := fun v => rq_t R
  have p1 := R.1.1
  have p2 := R.1.2.1
  have ri := mp_i R.1 i1 i2
  have e0 : am_up h 24 0 0 24 0 = 0 := rfl
  refine am_met T_Mo_at (by decide) (Nat.le_of_ble_eq_true rfl) (fun J hJ => ?_)
  repeat (first | refine hJ _ _ _ _ ?_ | refine And.intro (by omega) (fun _ => ?_) | refine And.intro (by omega) ?_ | refine And.intro (fun _ => ?_) (by omega))
  refine s_Mo_isPoint p1 p2 (by omega) (by omega) (fun _ => ?_) (fun g => absurd ⟨i1, i2⟩ g)
  rcases hw with rfl | rfl
  · repeat (first | refine hJ _ _ _ _ ?_ | refine And.intro (by omega) (fun _ => ?_) | refine And.intro (by omega) ?_ | refine And.intro (fun _ => ?_) (by omega))
    rw [if_pos rfl, ← ri.1]
    exact hQ _
  · repeat (first | refine hJ _ _ _ _ ?_ | refine And.intro (by omega) (fun _ => ?_) | refine And.intro (by omega) ?_ | refine And.intro (fun _ => ?_) (by omega))
    rw [if_neg (show ¬ (1 : Int) = 0 by decide), ← ri.2.1]
    exact hQ _
set_option maxRecDepth 20000 in
set_option maxHeartbeats 2000000 in
theorem m_at_1 {E : AE} {l : Launch} {n m : Nat} {pt : Nat → ge_P} {rt : Nat → Nat} {h : AH} (R : ir n m pt rt h) {i w : Int} (hi : lo_r i) (hb : ¬ (0 ≤ i ∧ i < n)) : am_g E l 111 [.inr (.inr 24), .inl i, .inl w] h (rq n m pt rt h 1 (some (.inl 0))) := by
  have hQ : ∀ v, rq n m pt rt h 1 v v (am_up h 24 0 1) := fun v => rq_t R
  have p1 := R.1.1
  have p2 := R.1.2.1
  have e0 : am_up h 24 0 1 24 0 = 1 := rfl
  refine am_met T_Mo_at (by decide) (Nat.le_of_ble_eq_true rfl) (fun J hJ => ?_)
  repeat (first | refine hJ _ _ _ _ ?_ | refine And.intro (by omega) (fun _ => ?_) | refine And.intro (by omega) ?_ | refine And.intro (fun _ => ?_) (by omega))
  refine s_Mo_isPoint p1 p2 hi.1 hi.2 (fun g => absurd g hb) (fun _ => ?_)
  repeat (first | refine hJ _ _ _ _ ?_ | refine And.intro (by omega) (fun _ => ?_) | refine And.intro (by omega) ?_ | refine And.intro (fun _ => ?_) (by omega))
  exact hQ _
set_option maxRecDepth 20000 in
set_option maxHeartbeats 2000000 in
theorem m_at_2 {E : AE} {l : Launch} {n m : Nat} {pt : Nat → ge_P} {rt : Nat → Nat} {h : AH} (R : ir n m pt rt h) {i w : Int} (i1 : 0 ≤ i) (i2 : i < n) (hr : lo_r w) (hw : ¬ (w = 0 ∨ w = 1)) : am_g E l 111 [.inr (.inr 24), .inl i, .inl w] h (rq n m pt rt h 2 (some (.inl 0))) := by
  have hQ : ∀ v, rq n m pt rt h 2 v v (am_up h 24 0 2) := fun v => rq_t R
  have p1 := R.1.1
  have p2 := R.1.2.1
  have e0 : am_up h 24 0 2 24 0 = 2 := rfl
  refine am_met T_Mo_at (by decide) (Nat.le_of_ble_eq_true rfl) (fun J hJ => ?_)
  repeat (first | refine hJ _ _ _ _ ?_ | refine And.intro (by omega) (fun _ => ?_) | refine And.intro (by omega) ?_ | refine And.intro (fun _ => ?_) (by omega))
  refine s_Mo_isPoint p1 p2 (by omega) (by omega) (fun _ => ?_) (fun g => absurd ⟨i1, i2⟩ g)
  repeat (first | refine hJ _ _ _ _ ?_ | refine And.intro (by omega) (fun _ => ?_) | refine And.intro (by omega) ?_ | refine And.intro (fun _ => ?_) (by omega))
  refine And.intro (fun hc => ?_) (fun hc => ?_)
  · repeat (first | refine hJ _ _ _ _ ?_ | refine And.intro (by omega) (fun _ => ?_) | refine And.intro (by omega) ?_ | refine And.intro (fun _ => ?_) (by omega))
    exact hQ _
  · repeat (first | refine hJ _ _ _ _ ?_ | refine And.intro (by omega) (fun _ => ?_) | refine And.intro (by omega) ?_ | refine And.intro (fun _ => ?_) (by omega))
    exact hQ _
theorem o_at {E : AE} {l : Launch} {s : State} (htr : l.stackTraces = false) (h0 : tx_0 s E) {k : Nat} {h : AH} (I : iv k h) : op_at E l s (iv (k + 1)) h := by
  obtain ⟨n, m, pt, rt, rg, C, R⟩ := I
  intro x hx y hy
  have p1 := C.1.1
  have p2 := C.1.2.1
  by_cases hb : 0 ≤ x ∧ x < n
  · by_cases hw : y = 0 ∨ y = 1
    · have r := (mp_i R.1 hb.1 hb.2).2.2
      have b : -2147483648 ≤ (if y = 0 then (pt x.toNat).1 else (pt x.toNat).2) ∧ (if y = 0 then (pt x.toNat).1 else (pt x.toNat).2) < 2147483648 := by
        split <;> omega
      exact op_h R b.1 b.2 (fun Q hg => hp_at_0 hg) (c_at_0 C hb.1 hb.2 hw) (fun h1 R1 => m_at_0 R1 hb.1 hb.2 hw)
    · exact hp_at_2 h0 (z_De_at_2 h0 htr p1 p2 hb.1 hb.2 hy.1 hy.2 ⟨fun g => hw (.inl g), fun g => hw (.inr g)⟩ (op_t R (ic_mono C (by omega)) (fun _ _ => rfl) (by decide) (by decide) (fun h1 R1 => m_at_2 R1 hb.1 hb.2 hy hw)))
  · exact hp_at_1 h0 (z_De_at_1 h0 htr p1 p2 hx.1 hx.2 hb (op_t R (ic_mono C (by omega)) (fun _ _ => rfl) (by decide) (by decide) (fun h1 R1 => m_at_1 R1 hx hb)))
set_option maxRecDepth 20000 in
set_option maxHeartbeats 2000000 in
theorem c_distance {E : AE} {l : Launch} {k n m : Nat} {pt : Nat → ge_P} {rt : Nat → Nat} {rg : Nat → ge_P} {h : AH} (C : ic k n m pt rt rg h) {i j : Int} (i1 : 0 ≤ i) (i2 : i < n) (j1 : 0 ≤ j) (j2 : j < n) : am_g E l 35 [.inr (.inr 0), .inl i, .inl j] h (cq (k + 1) n m pt rt rg h (some (.inr (.inl (hu_d (pt i.toNat) (pt j.toNat)))))) := by
  have hC : ∀ v, cq (k + 1) n m pt rt rg h v v h := fun v => ⟨rfl, fun _ _ => rfl, ic_mono C (by omega)⟩
  have ei := ic_p C i1 i2
  have ej := ic_p C j1 j2
  have p1 := C.1.1
  have p2 := C.1.2.1
  refine am_met T_De_distance (by decide) (Nat.le_of_ble_eq_true rfl) (fun J hJ => ?_)
  repeat (first | refine hJ _ _ _ _ ?_ | refine And.intro (by omega) (fun _ => ?_) | refine And.intro (by omega) ?_ | refine And.intro (fun _ => ?_) (by omega))
  refine s_De_requirePoint p1 p2 i1 i2 ?_
  repeat (first | refine hJ _ _ _ _ ?_ | refine And.intro (by omega) (fun _ => ?_) | refine And.intro (by omega) ?_ | refine And.intro (fun _ => ?_) (by omega))
  refine s_De_requirePoint p1 p2 j1 j2 ?_
  repeat (first | refine hJ _ _ _ _ ?_ | refine And.intro (by omega) (fun _ => ?_) | refine And.intro (by omega) ?_ | refine And.intro (fun _ => ?_) (by omega))
  refine s_Po_squaredDistance C.1.2.2.1 i1 (by omega) j1 (by omega) ?_
  rw [ei, ej]
  repeat (first | refine hJ _ _ _ _ ?_ | refine And.intro (by omega) (fun _ => ?_) | refine And.intro (by omega) ?_ | refine And.intro (fun _ => ?_) (by omega))
  exact hC _
set_option maxRecDepth 20000 in
set_option maxHeartbeats 2000000 in
theorem m_distance {E : AE} {l : Launch} {n m : Nat} {pt : Nat → ge_P} {rt : Nat → Nat} {h : AH} (R : ir n m pt rt h) {i j : Int} (i1 : 0 ≤ i) (i2 : i < n) (j1 : 0 ≤ j) (j2 : j < n) : am_g E l 116 [.inr (.inr 24), .inl i, .inl j] h (rq n m pt rt h 0 (some (.inr (.inl (hu_d (pt i.toNat) (pt j.toNat)))))) := by
  have hQ : ∀ v, rq n m pt rt h 0 v v (am_up h 24 0 0) := fun v => rq_t R
  have p1 := R.1.1
  have p2 := R.1.2.1
  have e0 : am_up h 24 0 0 24 0 = 0 := rfl
  refine am_met T_Mo_distance (by decide) (Nat.le_of_ble_eq_true rfl) (fun J hJ => ?_)
  repeat (first | refine hJ _ _ _ _ ?_ | refine And.intro (by omega) (fun _ => ?_) | refine And.intro (by omega) ?_ | refine And.intro (fun _ => ?_) (by omega))
  refine s_Mo_isPoint p1 p2 (by omega) (by omega) (fun _ => ?_) (fun g => absurd ⟨i1, i2⟩ g)
  repeat (first | refine hJ _ _ _ _ ?_ | refine And.intro (by omega) (fun _ => ?_) | refine And.intro (by omega) ?_ | refine And.intro (fun _ => ?_) (by omega))
  refine s_Mo_isPoint p1 p2 (by omega) (by omega) (fun _ => ?_) (fun g => absurd ⟨j1, j2⟩ g)
  repeat (first | refine hJ _ _ _ _ ?_ | refine And.intro (by omega) (fun _ => ?_) | refine And.intro (by omega) ?_ | refine And.intro (fun _ => ?_) (by omega))
  refine s_Mo_far (ir_t R).1 i1 i2 j1 j2 ?_
  repeat (first | refine hJ _ _ _ _ ?_ | refine And.intro (by omega) (fun _ => ?_) | refine And.intro (by omega) ?_ | refine And.intro (fun _ => ?_) (by omega))
  exact hQ _
set_option maxRecDepth 20000 in
set_option maxHeartbeats 2000000 in
theorem m_distance_1 {E : AE} {l : Launch} {n m : Nat} {pt : Nat → ge_P} {rt : Nat → Nat} {h : AH} (R : ir n m pt rt h) {i j : Int} (hi : lo_r i) (hj : lo_r j) (hb : ¬ ((0 ≤ i ∧ i < n) ∧ (0 ≤ j ∧ j < n))) : am_g E l 116 [.inr (.inr 24), .inl i, .inl j] h (rq n m pt rt h 1 (some (.inr (.inl 0)))) := by
  have hQ : ∀ v, rq n m pt rt h 1 v v (am_up h 24 0 1) := fun v => rq_t R
  have p1 := R.1.1
  have p2 := R.1.2.1
  have e0 : am_up h 24 0 1 24 0 = 1 := rfl
  refine am_met T_Mo_distance (by decide) (Nat.le_of_ble_eq_true rfl) (fun J hJ => ?_)
  repeat (first | refine hJ _ _ _ _ ?_ | refine And.intro (by omega) (fun _ => ?_) | refine And.intro (by omega) ?_ | refine And.intro (fun _ => ?_) (by omega))
  refine s_Mo_isPoint p1 p2 hi.1 hi.2 (fun g1 => ?_) (fun g1 => ?_)
  · repeat (first | refine hJ _ _ _ _ ?_ | refine And.intro (by omega) (fun _ => ?_) | refine And.intro (by omega) ?_ | refine And.intro (fun _ => ?_) (by omega))
    refine s_Mo_isPoint p1 p2 hj.1 hj.2 (fun g2 => absurd ⟨g1, g2⟩ hb) (fun g2 => ?_)
    repeat (first | refine hJ _ _ _ _ ?_ | refine And.intro (by omega) (fun _ => ?_) | refine And.intro (by omega) ?_ | refine And.intro (fun _ => ?_) (by omega))
    exact hQ _
  · repeat (first | refine hJ _ _ _ _ ?_ | refine And.intro (by omega) (fun _ => ?_) | refine And.intro (by omega) ?_ | refine And.intro (fun _ => ?_) (by omega))
    exact hQ _
theorem o_distance {E : AE} {l : Launch} {s : State} (htr : l.stackTraces = false) (h0 : tx_0 s E) {k : Nat} {h : AH} (I : iv k h) : op_distance E l s (iv (k + 1)) h := by
  obtain ⟨n, m, pt, rt, rg, C, R⟩ := I
  intro x hx y hy
  have p1 := C.1.1
  have p2 := C.1.2.1
  by_cases hb : 0 ≤ x ∧ x < n
  · by_cases hw : 0 ≤ y ∧ y < n
    · have b := mp_d (mp_i R.1 hb.1 hb.2).2.2 (mp_i R.1 hw.1 hw.2).2.2
      exact op_hl R (by omega) (by omega) (fun Q hg => hp_distance_0 hg) (c_distance C hb.1 hb.2 hw.1 hw.2) (fun h1 R1 => m_distance R1 hb.1 hb.2 hw.1 hw.2)
    · exact hp_distance_1 h0 (z_De_distance_2 h0 htr p1 p2 hb.1 hb.2 hy.1 hy.2 hw (op_tl R (ic_mono C (by omega)) (fun _ _ => rfl) (by decide) (by decide) (fun h1 R1 => m_distance_1 R1 hx hy (fun g => hw g.2))))
  · exact hp_distance_1 h0 (z_De_distance_1 h0 htr p1 p2 hx.1 hx.2 hb (op_tl R (ic_mono C (by omega)) (fun _ _ => rfl) (by decide) (by decide) (fun h1 R1 => m_distance_1 R1 hx hy (fun g => hb g.1))))
/-! the hull, asked for -/
/-- a heap with the hull found -/
theorem ic_hull {E : AE} {l : Launch} {k n m : Nat} {pt : Nat → ge_P} {rt : Nat → Nat} {rg : Nat → ge_P} {h : AH} (C : ic k n m pt rt rg h) (hk : k ≤ 600) : am_g E l 16 [.inr (.inr 4)] h (fun r h1 => r = none ∧ (∀ c, c ≠ 4 → c ≠ 5 → c ≠ 6 → h1 c = h c) ∧ ic k n m pt rt rg h1 ∧ hv n pt h1) := by
  have C0 := C
  obtain ⟨P, Rr, v, hh, hl, hc, ht⟩ := C
  have v' := v
  have hh' := hh
  unfold icV at v'
  unfold icH at hh'
  refine s_Hu_refresh P.2.2.1 P.1 P.2.1 (by omega) (by omega) (by omega) (by omega) (fun e => ?_) (fun ne h' f e1 e2 e3 => ?_)
  · exact ⟨rfl, fun _ _ _ _ => rfl, C0, hh'.2.2 e⟩
  · have hpp : ∀ i, i < n → pd_q h i = pt i := P.2.2.2
    have hvv : hv n pt h' := by
      have em := hu_m_congr (mk := fun _ => true) (mk' := fun _ => true) hpp (fun _ _ => rfl)
      refine ⟨by rw [e2, em], fun j hj => ?_⟩
      rw [e3 j (by rw [em]; exact hj)]
      exact hu_w_congr hpp (fun _ _ => rfl) j
    refine ⟨rfl, f, ⟨icP_cg P (f _ (by decide) (by decide) (by decide)) (f _ (by decide) (by decide) (by decide)) (f _ (by decide) (by decide) (by decide)), icR_cg Rr (f _ (by decide) (by decide) (by decide)) (f _ (by decide) (by decide) (by decide)), icV_cg v (f _ (by decide) (by decide) (by decide)) (f _ (by decide) (by decide) (by decide)), ?_, icL_cg hl (f _ (by decide) (by decide) (by decide)) (f _ (by decide) (by decide) (by decide)) (f _ (by decide) (by decide) (by decide)), icC_cg hc (f _ (by decide) (by decide) (by decide)) (f _ (by decide) (by decide) (by decide)) (f _ (by decide) (by decide) (by decide)), icT_cg ht (f _ (by decide) (by decide) (by decide)) (f _ (by decide) (by decide) (by decide)) (f _ (by decide) (by decide) (by decide))⟩, hvv⟩
    unfold icH
    rw [f 1 (by decide) (by decide) (by decide)]
    exact ⟨by omega, by omega, fun _ => hvv⟩
/-- corners of a found hull -/
theorem hv_hk {k n m : Nat} {pt : Nat → ge_P} {rt : Nat → Nat} {rg : Nat → ge_P} {h : AH} (C : ic k n m pt rt rg h) (V : hv n pt h) : hk h 4 (hu_m pt (fun _ => true) n) (hu_p pt (fun _ => true) n) := by
  have hle := hu_m_le pt (fun _ => true) n
  have p2 := C.1.2.1
  refine ⟨V.1, by omega, fun j hj => ?_⟩
  have h0 := (hu_m_N pt (fun _ => true) n).2 j hj
  have h1 := (hu_w_ok pt (fun _ => true) n j h0).1
  have e : h (4 + 2) j = hu_w pt (fun _ => true) n j := V.2 j hj
  rw [e]
  refine ⟨h0, by omega, ?_⟩
  rw [ic_p C h0 (by omega)]
  rfl
abbrev an_corner (pt : Nat → ge_P) (n : Nat) (x : Int) : Int := if 0 ≤ x ∧ x < (hu_m pt (fun _ => true) n : Int) then hu_w pt (fun _ => true) n x.toNat else -1
set_option maxRecDepth 20000 in
set_option maxHeartbeats 2000000 in
theorem c_corner {E : AE} {l : Launch} {k n m : Nat} {pt : Nat → ge_P} {rt : Nat → Nat} {rg : Nat → ge_P} {h : AH} (C : ic k n m pt rt rg h) (hk : k ≤ 600) {x : Int} (hx : lo_r x) : am_g E l 30 [.inr (.inr 0), .inl x] h (cq (k + 1) n m pt rt rg h (some (.inl (an_corner pt n x)))) := by
  have hle := hu_m_le pt (fun _ => true) n
  have p2 := C.1.2.1
  refine am_met T_De_corner (by decide) (Nat.le_of_ble_eq_true rfl) (fun J hJ => ?_)
  repeat (first | refine hJ _ _ _ _ ?_ | refine And.intro (by omega) (fun _ => ?_) | refine And.intro (by omega) ?_ | refine And.intro (fun _ => ?_) (by omega))
  refine am_g_mono (ic_hull C hk) ?_
  rintro r h1 ⟨rfl, f, C1, V⟩
  have hC : ∀ v, cq (k + 1) n m pt rt rg h v v h1 := fun v => ⟨rfl, fun c hc => f c (by omega) (by omega) (by omega), ic_mono C1 (by omega)⟩
  have V1 := V.1
  repeat (first | refine hJ _ _ _ _ ?_ | refine And.intro (by omega) (fun _ => ?_) | refine And.intro (by omega) ?_ | refine And.intro (fun _ => ?_) (by omega))
  refine And.intro (fun hc => ?_) (fun hc => ?_)
  · repeat (first | refine hJ _ _ _ _ ?_ | refine And.intro (by omega) (fun _ => ?_) | refine And.intro (by omega) ?_ | refine And.intro (fun _ => ?_) (by omega))
    have e : an_corner pt n x = -1 := if_neg (by omega)
    rw [e]
    exact hC _
  · repeat (first | refine hJ _ _ _ _ ?_ | refine And.intro (by omega) (fun _ => ?_) | refine And.intro (by omega) ?_ | refine And.intro (fun _ => ?_) (by omega))
    refine And.intro (fun hd => ?_) (fun hd => ?_)
    · repeat (first | refine hJ _ _ _ _ ?_ | refine And.intro (by omega) (fun _ => ?_) | refine And.intro (by omega) ?_ | refine And.intro (fun _ => ?_) (by omega))
      have e : an_corner pt n x = -1 := if_neg (by omega)
      rw [e]
      exact hC _
    · repeat (first | refine hJ _ _ _ _ ?_ | refine And.intro (by omega) (fun _ => ?_) | refine And.intro (by omega) ?_ | refine And.intro (fun _ => ?_) (by omega))
      have e : an_corner pt n x = hu_w pt (fun _ => true) n x.toNat := if_pos (by omega)
      rw [e, ← V.2 x.toNat (by omega)]
      exact hC _
/-- the reference's hull, asked for -/
theorem ir_hull {E : AE} {l : Launch} {n m : Nat} {pt : Nat → ge_P} {rt : Nat → Nat} {h : AH} (R : ir n m pt rt h) : am_g E l 106 [.inr (.inr 24)] h (fun r h1 => r = none ∧ (∀ c, c ≠ 24 → c ≠ 28 → c ≠ 29 → h1 c = h c) ∧ (∀ j, j ≠ 8 → h1 24 j = h 24 j) ∧ ir n m pt rt h1 ∧ mk_h h1 n (hu_m pt (fun _ => true) n) pt (hu_p pt (fun _ => true) n) ∧ ∀ j, j < hu_m pt (fun _ => true) n → h1 29 j = hu_w pt (fun _ => true) n j) := by
  obtain ⟨P, r1, r2⟩ := R
  refine s_Mo_hull P ?_
  have o : ∀ c, c ≠ 24 → c ≠ 28 → c ≠ 29 → mo_wr (aw h 28 (fun _ => 1) n) (hu_w pt (fun _ => true) n) (hu_m pt (fun _ => true) n) c = h c := fun c c1 c2 c3 => by rw [mo_wr_o c1 c3, aw_o c2]
  have o24 : ∀ j, j ≠ 8 → mo_wr (aw h 28 (fun _ => 1) n) (hu_w pt (fun _ => true) n) (hu_m pt (fun _ => true) n) 24 j = h 24 j := fun j hj => by rw [mo_wr_24 hj, aw_o (by decide)]
  refine ⟨rfl, o, o24, ⟨mp_cg P (o24 3 (by decide)) (o 25 (by decide) (by decide) (by decide)) (o 26 (by decide) (by decide) (by decide)), by rw [o24 5 (by decide)]; exact r1, by rw [o 27 (by decide) (by decide) (by decide)]; exact r2⟩, mk_wr P.2.1, fun j hj => by simp [mo_wr, hj]⟩
set_option maxRecDepth 20000 in
set_option maxHeartbeats 2000000 in
theorem m_corner {E : AE} {l : Launch} {n m : Nat} {pt : Nat → ge_P} {rt : Nat → Nat} {h : AH} (R : ir n m pt rt h) {x : Int} (hx : lo_r x) : am_g E l 112 [.inr (.inr 24), .inl x] h (rq n m pt rt h 0 (some (.inl (an_corner pt n x)))) := by
  have hle := hu_m_le pt (fun _ => true) n
  have p2 := R.1.2.1
  refine am_met T_Mo_corner (by decide) (Nat.le_of_ble_eq_true rfl) (fun J hJ => ?_)
  repeat (first | refine hJ _ _ _ _ ?_ | refine And.intro (by omega) (fun _ => ?_) | refine And.intro (by omega) ?_ | refine And.intro (fun _ => ?_) (by omega))
  refine am_g_mono (ir_hull (ir_t R (t := 0))) ?_
  rintro r h1 ⟨rfl, f, f24, R1, K, V⟩
  have hC : ∀ v, rq n m pt rt h 0 v v h1 := fun v => ⟨rfl, fun c hc => by rw [f c (by omega) (by omega) (by omega), am_up_o (by omega)], by rw [f24 0 (by decide)]; rfl, R1⟩
  have V1 := K.1
  repeat (first | refine hJ _ _ _ _ ?_ | refine And.intro (by omega) (fun _ => ?_) | refine And.intro (by omega) ?_ | refine And.intro (fun _ => ?_) (by omega))
  refine And.intro (fun hc => ?_) (fun hc => ?_)
  · repeat (first | refine hJ _ _ _ _ ?_ | refine And.intro (by omega) (fun _ => ?_) | refine And.intro (by omega) ?_ | refine And.intro (fun _ => ?_) (by omega))
    have e : an_corner pt n x = -1 := if_neg (by omega)
    rw [e]
    exact hC _
  · repeat (first | refine hJ _ _ _ _ ?_ | refine And.intro (by omega) (fun _ => ?_) | refine And.intro (by omega) ?_ | refine And.intro (fun _ => ?_) (by omega))
    refine And.intro (fun hd => ?_) (fun hd => ?_)
    · repeat (first | refine hJ _ _ _ _ ?_ | refine And.intro (by omega) (fun _ => ?_) | refine And.intro (by omega) ?_ | refine And.intro (fun _ => ?_) (by omega))
      have e : an_corner pt n x = -1 := if_neg (by omega)
      rw [e]
      exact hC _
    · repeat (first | refine hJ _ _ _ _ ?_ | refine And.intro (by omega) (fun _ => ?_) | refine And.intro (by omega) ?_ | refine And.intro (fun _ => ?_) (by omega))
      have e : an_corner pt n x = hu_w pt (fun _ => true) n x.toNat := if_pos (by omega)
      rw [e, ← V x.toNat (by omega)]
      exact hC _
theorem an_corner_b (pt : Nat → ge_P) {n : Nat} (hn : n ≤ 60) (x : Int) : -2147483648 ≤ an_corner pt n x ∧ an_corner pt n x < 2147483648 := by
  have hb := hu_w_b pt (fun _ => true) n x.toNat
  unfold an_corner
  split <;> omega
theorem o_corner {E : AE} {l : Launch} {s : State} {k : Nat} {h : AH} (hk : k ≤ 600) (I : iv k h) : op_corner E l s (iv (k + 1)) h := by
  obtain ⟨n, m, pt, rt, rg, C, R⟩ := I
  intro x hx
  have b := an_corner_b pt C.1.2.1 x
  exact op_i R b.1 b.2 (c_corner C hk hx) (fun h1 R1 => m_corner R1 hx)
/-! area -/
abbrev an_area (pt : Nat → ge_P) (n : Nat) : Int := su (fun i => ge_r (hu_p pt (fun _ => true) n i) (hu_p pt (fun _ => true) n (nx (hu_m pt (fun _ => true) n) i))) 0 (hu_m pt (fun _ => true) n)
set_option maxRecDepth 20000 in
set_option maxHeartbeats 2000000 in
theorem c_area {E : AE} {l : Launch} {k n m : Nat} {pt : Nat → ge_P} {rt : Nat → Nat} {rg : Nat → ge_P} {h : AH} (C : ic k n m pt rt rg h) (hk : k ≤ 600) : am_g E l 32 [.inr (.inr 0)] h (cq (k + 1) n m pt rt rg h (some (.inr (.inl (an_area pt n))))) := by
  refine am_met T_De_area (by decide) (Nat.le_of_ble_eq_true rfl) (fun J hJ => ?_)
  repeat (first | refine hJ _ _ _ _ ?_ | refine And.intro (by omega) (fun _ => ?_) | refine And.intro (by omega) ?_ | refine And.intro (fun _ => ?_) (by omega))
  refine am_g_mono (ic_hull C hk) ?_
  rintro r h1 ⟨rfl, f, C1, V⟩
  have hC : ∀ v, cq (k + 1) n m pt rt rg h v v h1 := fun v => ⟨rfl, fun c hc => f c (by omega) (by omega) (by omega), ic_mono C1 (by omega)⟩
  repeat (first | refine hJ _ _ _ _ ?_ | refine And.intro (by omega) (fun _ => ?_) | refine And.intro (by omega) ?_ | refine And.intro (fun _ => ?_) (by omega))
  refine s_Hu_twiceArea C1.1.2.2.1 (hv_hk C1 V) ?_
  rw [ge_fan_eq]
  repeat (first | refine hJ _ _ _ _ ?_ | refine And.intro (by omega) (fun _ => ?_) | refine And.intro (by omega) ?_ | refine And.intro (fun _ => ?_) (by omega))
  exact hC _
set_option maxRecDepth 20000 in
set_option maxHeartbeats 2000000 in
theorem m_area {E : AE} {l : Launch} {n m : Nat} {pt : Nat → ge_P} {rt : Nat → Nat} {h : AH} (R : ir n m pt rt h) : am_g E l 113 [.inr (.inr 24)] h (rq n m pt rt h 0 (some (.inr (.inl (an_area pt n))))) := by
  refine am_met T_Mo_area (by decide) (Nat.le_of_ble_eq_true rfl) (fun J hJ => ?_)
  repeat (first | refine hJ _ _ _ _ ?_ | refine And.intro (by omega) (fun _ => ?_) | refine And.intro (by omega) ?_ | refine And.intro (fun _ => ?_) (by omega))
  refine am_g_mono (ir_hull (ir_t R (t := 0))) ?_
  rintro r h1 ⟨rfl, f, f24, R1, K, V⟩
  have hC : ∀ v, rq n m pt rt h 0 v v h1 := fun v => ⟨rfl, fun c hc => by rw [f c (by omega) (by omega) (by omega), am_up_o (by omega)], by rw [f24 0 (by decide)]; rfl, R1⟩
  have P := R1.1
  have n60 := P.2.1
  obtain ⟨hm, m60, hw⟩ := K
  clear V
  obtain ⟨q, hq⟩ : ∃ q, q = hu_m pt (fun _ => true) n := ⟨_, rfl⟩
  obtain ⟨cp, hcp⟩ : ∃ cp, cp = hu_p pt (fun _ => true) n := ⟨_, rfl⟩
  have ea : an_area pt n = su (fun i => ge_r (cp i) (cp (nx q i))) 0 q := by rw [hq, hcp]
  rw [← hq, ← hcp] at hw
  rw [← hq] at hm m60
  have loop : ∀ d k : Nat, ∀ (acc : Int) (u v : Option AV), k + d = q → acc = su (fun i => ge_r (cp i) (cp (nx q i))) 0 k → J 13 [some (.inr (.inr 24)), some (.inr (.inl acc)), none, some (.inl (k : Int)), u, v] [] h1 := by
    intro d
    induction d with
    | zero =>
      intro k acc u v hk ha
      have ekq : k = q := by omega
      rw [ekq] at ha
      repeat (first | refine hJ _ _ _ _ ?_ | refine And.intro (by omega) (fun _ => ?_) | refine And.intro (by omega) ?_ | refine And.intro (fun _ => ?_) (by omega))
      rw [ha, ← ea]
      exact hC _
    | succ d ih =>
      intro k acc u v hk ha
      have wk : 0 ≤ h1 29 (Int.toNat (k : Int)) ∧ h1 29 (Int.toNat (k : Int)) < n ∧ pt (h1 29 (Int.toNat (k : Int))).toNat = cp k := hw k (by omega)
      have hnx : nx q k < q := nx_lt (by omega)
      have wn : 0 ≤ h1 29 (Int.toNat (nx q k : Int)) ∧ h1 29 (Int.toNat (nx q k : Int)) < n ∧ pt (h1 29 (Int.toNat (nx q k : Int))).toNat = cp (nx q k) := hw (nx q k) hnx
      have rk := mp_i P wk.1 wk.2.1
      have rn := mp_i P wn.1 wn.2.1
      rw [wk.2.2] at rk
      rw [wn.2.2] at rn
      repeat (first | refine hJ _ _ _ _ ?_ | refine And.intro (by omega) (fun _ => ?_) | refine And.intro (by omega) ?_ | refine And.intro (fun _ => ?_) (by omega))
      refine s_Mo_next hm m60 (by omega) ?_
      repeat (first | refine ih (k + 1) _ _ _ (by omega) ?_ | refine hJ _ _ _ _ ?_ | refine And.intro (by omega) (fun _ => ?_) | refine And.intro (by omega) ?_ | refine And.intro (fun _ => ?_) (by omega))
      rw [su_s (by omega), ha, rk.1, rk.2.1, rn.1, rn.2.1]
      unfold ge_r
      omega
  repeat (first | exact loop q 0 _ _ _ (by omega) (by rw [su_0 (by omega)]) | refine hJ _ _ _ _ ?_ | refine And.intro (by omega) (fun _ => ?_) | refine And.intro (by omega) ?_ | refine And.intro (fun _ => ?_) (by omega))
theorem o_area {E : AE} {l : Launch} {s : State} {k : Nat} {h : AH} (hk : k ≤ 600) (I : iv k h) : op_area E l s (iv (k + 1)) h := by
  obtain ⟨n, m, pt, rt, rg, C, R⟩ := I
  have n60 := R.1.2.1
  have hle := hu_m_le pt (fun _ => true) n
  have rp : ∀ j, j < hu_m pt (fun _ => true) n → -100000 ≤ (hu_p pt (fun _ => true) n j).1 ∧ (hu_p pt (fun _ => true) n j).1 ≤ 100000 ∧ -100000 ≤ (hu_p pt (fun _ => true) n j).2 ∧ (hu_p pt (fun _ => true) n j).2 ≤ 100000 := fun j hj => by
    have h0 := (hu_m_N pt (fun _ => true) n).2 j hj
    have h1 := (hu_w_ok pt (fun _ => true) n j h0).1
    exact R.1.2.2.2 _ h1
  have b : -80000000000 * (hu_m pt (fun _ => true) n : Int) ≤ an_area pt n ∧ an_area pt n ≤ 80000000000 * (hu_m pt (fun _ => true) n : Int) := su_b (g := fun i => ge_r (hu_p pt (fun _ => true) n i) (hu_p pt (fun _ => true) n (nx (hu_m pt (fun _ => true) n) i))) (s := 0) (e := hu_m pt (fun _ => true) n) (A := -80000000000) (B := 80000000000) (by decide) (by decide) (fun j _ hj => by
    have r1 := rp j hj
    have r2 := rp _ (nx_lt hj)
    have m1 := pd_mul r1.1 r1.2.1 (show -100000 ≤ (0 : Int) by decide) (by decide) r2.2.2.1 r2.2.2.2 (show -100000 ≤ (0 : Int) by decide) (by decide)
    have m2 := pd_mul r2.1 r2.2.1 (show -100000 ≤ (0 : Int) by decide) (by decide) r1.2.2.1 r1.2.2.2 (show -100000 ≤ (0 : Int) by decide) (by decide)
    simp only [Int.sub_zero] at m1 m2
    show -80000000000 ≤ ge_r _ _ ∧ ge_r _ _ ≤ 80000000000
    unfold ge_r
    omega)
  exact op_w R (by omega) (by omega) (c_area C hk) (fun h1 R1 => m_area R1)
