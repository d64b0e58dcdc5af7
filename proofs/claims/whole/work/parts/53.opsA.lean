/-! calls: add, clear, go, stop, place, at, distance -/
theorem ic_p {k n m : Nat} {pt : Nat → ge_P} {rt : Nat → Nat} {rg : Nat → ge_P} {h : AH} (C : ic k n m pt rt rg h) {i : Int} (h1 : 0 ≤ i) (h2 : i < n) : pd_p h i = pt i.toNat := by
  rw [pd_p_q]
  exact C.1.2.2.2 i.toNat (by omega)
/-- thrown is set, and nothing else -/
theorem ir_t {n m : Nat} {pt : Nat → ge_P} {rt : Nat → Nat} {h : AH} (R : ir n m pt rt h) {t : Int} : ir n m pt rt (am_up h 24 0 t) := by
  obtain ⟨r1, r2, r3⟩ := R
  exact ⟨mp_cg r1 rfl (am_up_o (by decide)) (am_up_o (by decide)), r2, by rw [am_up_o (by decide)]; exact r3⟩
theorem rq_t {n m : Nat} {pt : Nat → ge_P} {rt : Nat → Nat} {h : AH} (R : ir n m pt rt h) {t : Int} {v : Option AV} : rq n m pt rt h t v v (am_up h 24 0 t) :=
  ⟨rfl, fun c hc => am_up_o (by omega), by simp [am_up], ir_t R⟩
set_option maxRecDepth 20000 in
set_option maxHeartbeats 2000000 in
theorem s_Mo_isFar {E : AE} {l : Launch} {h : AH} {v : Int} (v1 : -2147483648 ≤ v) (v2 : v < 2147483648) {Q : AR} (h1 : ¬ (-100000 ≤ v ∧ v ≤ 100000) → Q (some (.inl 1)) h) (h0 : -100000 ≤ v ∧ v ≤ 100000 → Q (some (.inl 0)) h) : am_g E l 92 [.inl v] h Q := by
  refine am_met T_Mo_isFar (by decide) (Nat.le_of_ble_eq_true rfl) (fun J hJ => ?_)
  repeat (first | refine hJ _ _ _ _ ?_ | refine And.intro (by omega) (fun _ => ?_) | refine And.intro (by omega) ?_ | refine And.intro (fun _ => ?_) (by omega))
  refine And.intro (fun hc => ?_) (fun hc => ?_)
  · repeat (first | refine hJ _ _ _ _ ?_ | refine And.intro (by omega) (fun _ => ?_) | refine And.intro (by omega) ?_ | refine And.intro (fun _ => ?_) (by omega))
    exact h1 (by omega)
  · repeat (first | refine hJ _ _ _ _ ?_ | refine And.intro (by omega) (fun _ => ?_) | refine And.intro (by omega) ?_ | refine And.intro (fun _ => ?_) (by omega))
    refine And.intro (fun hd => ?_) (fun hd => ?_)
    · repeat (first | refine hJ _ _ _ _ ?_ | refine And.intro (by omega) (fun _ => ?_) | refine And.intro (by omega) ?_ | refine And.intro (fun _ => ?_) (by omega))
      exact h0 (by omega)
    · repeat (first | refine hJ _ _ _ _ ?_ | refine And.intro (by omega) (fun _ => ?_) | refine And.intro (by omega) ?_ | refine And.intro (fun _ => ?_) (by omega))
      exact h1 (by omega)
set_option maxRecDepth 20000 in
set_option maxHeartbeats 2000000 in
theorem s_Mo_isPoint {E : AE} {l : Launch} {h : AH} {n : Nat} (hn : h 24 3 = (n : Int)) (hn2 : n ≤ 60) {i : Int} (i1 : -2147483648 ≤ i) (i2 : i < 2147483648) {Q : AR} (h1 : 0 ≤ i ∧ i < n → Q (some (.inl 1)) h) (h0 : ¬ (0 ≤ i ∧ i < n) → Q (some (.inl 0)) h) : am_g E l 110 [.inr (.inr 24), .inl i] h Q := by
  refine am_met T_Mo_isPoint (by decide) (Nat.le_of_ble_eq_true rfl) (fun J hJ => ?_)
  repeat (first | refine hJ _ _ _ _ ?_ | refine And.intro (by omega) (fun _ => ?_) | refine And.intro (by omega) ?_ | refine And.intro (fun _ => ?_) (by omega))
  refine And.intro (fun hc => ?_) (fun hc => ?_)
  · repeat (first | refine hJ _ _ _ _ ?_ | refine And.intro (by omega) (fun _ => ?_) | refine And.intro (by omega) ?_ | refine And.intro (fun _ => ?_) (by omega))
    exact h0 (by omega)
  · repeat (first | refine hJ _ _ _ _ ?_ | refine And.intro (by omega) (fun _ => ?_) | refine And.intro (by omega) ?_ | refine And.intro (fun _ => ?_) (by omega))
    refine And.intro (fun hd => ?_) (fun hd => ?_)
    · repeat (first | refine hJ _ _ _ _ ?_ | refine And.intro (by omega) (fun _ => ?_) | refine And.intro (by omega) ?_ | refine And.intro (fun _ => ?_) (by omega))
      exact h0 (by omega)
    · repeat (first | refine hJ _ _ _ _ ?_ | refine And.intro (by omega) (fun _ => ?_) | refine And.intro (by omega) ?_ | refine And.intro (fun _ => ?_) (by omega))
      exact h1 (by omega)
/-! add -/
def pt_add (pt : Nat → ge_P) (n : Nat) (x y : Int) : Nat → ge_P := fun i => if i = n then (x, y) else pt i
set_option maxRecDepth 20000 in
set_option maxHeartbeats 2000000 in
theorem c_add_1 {E : AE} {l : Launch} {k n m : Nat} {pt : Nat → ge_P} {rt : Nat → Nat} {rg : Nat → ge_P} {h : AH} (C : ic k n m pt rt rg h) {x y : Int} (hx : pd_in x y) (hn : n < 60) : am_g E l 2 [.inr (.inr 0), .inl x, .inl y] h (cq (k + 1) (n + 1) m (pt_add pt n x y) rt rg h (some (.inl (n : Int)))) := by
  obtain ⟨⟨p1, p2, p3, p4⟩, ⟨r1, r2, r3⟩, v, hh, hl, hc, ht⟩ := C
  have hx' := hx
  unfold pd_in at hx'
  refine am_met T_De_add (by decide) (Nat.le_of_ble_eq_true rfl) (fun J hJ => ?_)
  repeat (first | refine hJ _ _ _ _ ?_ | refine And.intro (by omega) (fun _ => ?_) | refine And.intro (by omega) ?_ | refine And.intro (fun _ => ?_) (by omega))
  refine s_De_isInPlane (by omega) (by omega) (by omega) (by omega) (fun _ => ?_) (fun g => absurd hx g)
  repeat (first | refine hJ _ _ _ _ ?_ | refine And.intro (by omega) (fun _ => ?_) | refine And.intro (by omega) ?_ | refine And.intro (fun _ => ?_) (by omega))
  refine s_Po_append (by omega) (by omega) ?_
  have e2 : (h 1 2).toNat = n := by omega
  rw [e2, p1]
  generalize hg : am_up (am_up (am_up (am_up h 2 n x) 3 n y) 1 2 ((n : Int) + 1)) 1 3 (h 1 3 + 1) = g
  have o : ∀ c, c ≠ 1 → c ≠ 2 → c ≠ 3 → g c = h c := fun c c1 c2 c3 => by rw [← hg, am_up_o c1, am_up_o c1, am_up_o c3, am_up_o c2]
  have g12 : g 1 2 = (n : Int) + 1 := by rw [← hg]; simp [am_up]
  have g13 : g 1 3 = h 1 3 + 1 := by rw [← hg]; simp [am_up]
  have g2 : ∀ j, g 2 j = if j = n then x else h 2 j := fun j => by rw [← hg]; simp [am_up]
  have g3 : ∀ j, g 3 j = if j = n then y else h 3 j := fun j => by rw [← hg]; simp [am_up]
  clear hg
  repeat (first | refine hJ _ _ _ _ ?_ | refine And.intro (by omega) (fun _ => ?_) | refine And.intro (by omega) ?_ | refine And.intro (fun _ => ?_) (by omega))
  refine ⟨by rw [g12]; simp, fun c hc => o c (by omega) (by omega) (by omega), ⟨by rw [g12]; rfl, by omega, fun i hi => ?_, fun i hi => ?_⟩, ?_, ?_, ?_, ?_, icC_cg hc (o _ (by decide) (by decide) (by decide)) (o _ (by decide) (by decide) (by decide)) (o _ (by decide) (by decide) (by decide)), icT_cg ht (o _ (by decide) (by decide) (by decide)) (o _ (by decide) (by decide) (by decide)) (o _ (by decide) (by decide) (by decide))⟩
  · rw [g2, g3]
    have := p3 i hi
    split
    · omega
    · exact this
  · unfold pd_q pt_add
    rw [g2, g3]
    by_cases hin : i = n
    · rw [if_pos hin, if_pos hin, if_pos hin]
    · rw [if_neg hin, if_neg hin, if_neg hin]
      exact p4 i (by omega)
  · unfold icR
    rw [o 17 (by decide) (by decide) (by decide), o 18 (by decide) (by decide) (by decide)]
    refine ⟨r1, r2, fun j hj => ?_⟩
    have := r3 j hj
    refine ⟨this.1, by omega, ?_⟩
    unfold pt_add
    rw [if_neg (by omega)]
    exact this.2.2
  · unfold icV at *
    rw [g13, o 17 (by decide) (by decide) (by decide)]
    omega
  · unfold icH at *
    rw [g13, o 4 (by decide) (by decide) (by decide)]
    exact ⟨by omega, by omega, fun q => by omega⟩
  · unfold icL at *
    rw [g13, o 12 (by decide) (by decide) (by decide)]
    exact ⟨by omega, by omega, fun q => by omega⟩
set_option maxRecDepth 20000 in
set_option maxHeartbeats 2000000 in
theorem c_add_0 {E : AE} {l : Launch} {k n m : Nat} {pt : Nat → ge_P} {rt : Nat → Nat} {rg : Nat → ge_P} {h : AH} (C : ic k n m pt rt rg h) {x y : Int} (hx : lo_r x) (hy : lo_r y) (hb : ¬ (pd_in x y ∧ n < 60)) : am_g E l 2 [.inr (.inr 0), .inl x, .inl y] h (cq (k + 1) n m pt rt rg h (some (.inl (-1)))) := by
  have p1 := C.1.1
  have p2 := C.1.2.1
  have hC : cq (k + 1) n m pt rt rg h (some (.inl (-1))) (some (.inl (-1))) h := ⟨rfl, fun _ _ => rfl, ic_mono C (by omega)⟩
  refine am_met T_De_add (by decide) (Nat.le_of_ble_eq_true rfl) (fun J hJ => ?_)
  repeat (first | refine hJ _ _ _ _ ?_ | refine And.intro (by omega) (fun _ => ?_) | refine And.intro (by omega) ?_ | refine And.intro (fun _ => ?_) (by omega))
  refine s_De_isInPlane hx.1 hx.2 hy.1 hy.2 (fun g => ?_) (fun g => ?_)
  · have : n = 60 := by
      rcases (show n < 60 ∨ n = 60 by omega) with q | q
      · exact absurd ⟨g, q⟩ hb
      · exact q
    repeat (first | refine hJ _ _ _ _ ?_ | refine And.intro (by omega) (fun _ => ?_) | refine And.intro (by omega) ?_ | refine And.intro (fun _ => ?_) (by omega))
    exact hC
  · repeat (first | refine hJ _ _ _ _ ?_ | refine And.intro (by omega) (fun _ => ?_) | refine And.intro (by omega) ?_ | refine And.intro (fun _ => ?_) (by omega))
    exact hC
set_option maxRecDepth 20000 in
set_option maxHeartbeats 2000000 in
theorem m_add_1 {E : AE} {l : Launch} {n m : Nat} {pt : Nat → ge_P} {rt : Nat → Nat} {h : AH} (R : ir n m pt rt h) {x y : Int} (hx : pd_in x y) (hn : n < 60) : am_g E l 93 [.inr (.inr 24), .inl x, .inl y] h (rq (n + 1) m (pt_add pt n x y) rt h 0 (some (.inl (n : Int)))) := by
  obtain ⟨⟨p1, p2, p3, p4⟩, r1, r2⟩ := R
  have hx' := hx
  unfold pd_in at hx'
  have e0 : am_up h 24 0 0 24 3 = h 24 3 := rfl
  have e1 : am_up (am_up h 24 0 0) 25 (am_up h 24 0 0 24 3).toNat x 24 3 = h 24 3 := rfl
  refine am_met T_Mo_add (by decide) (Nat.le_of_ble_eq_true rfl) (fun J hJ => ?_)
  repeat (first | refine hJ _ _ _ _ ?_ | refine And.intro (by omega) (fun _ => ?_) | refine And.intro (by omega) ?_ | refine And.intro (fun _ => ?_) (by omega))
  refine s_Mo_isFar (by omega) (by omega) (fun g => by omega) (fun _ => ?_)
  repeat (first | refine hJ _ _ _ _ ?_ | refine And.intro (by omega) (fun _ => ?_) | refine And.intro (by omega) ?_ | refine And.intro (fun _ => ?_) (by omega))
  refine s_Mo_isFar (by omega) (by omega) (fun g => by omega) (fun _ => ?_)
  repeat (first | refine hJ _ _ _ _ ?_ | refine And.intro (by omega) (fun _ => ?_) | refine And.intro (by omega) ?_ | refine And.intro (fun _ => ?_) (by omega))
  have e2 : (h 24 3).toNat = n := by omega
  refine ⟨?_, fun c hc => ?_, rfl, ⟨?_, by omega, fun i hi => ?_, fun i hi => ?_⟩, r1, fun j hj => ?_⟩
  · show (some (Sum.inl (h 24 3 + 1 - 1)) : Option AV) = _
    rw [p1]; simp
  · rw [am_up_o (by omega), am_up_o (by omega), am_up_o (by omega), am_up_o (by omega)]
  · show h 24 3 + 1 = _
    rw [p1]; rfl
  · have q := p3 i
    show am_up h 25 (h 24 3).toNat x 25 i = _ ∧ am_up h 26 (h 24 3).toNat y 26 i = _
    rw [e2]
    unfold pt_add
    simp only [am_up]
    by_cases hin : i = n
    · simp [hin]
    · simp [hin]
      exact q (by omega)
  · unfold pt_add
    by_cases hin : i = n
    · rw [if_pos hin]; exact hx'
    · rw [if_neg hin]; exact p4 i (by omega)
  · show h 27 j = _
    exact r2 j hj
set_option maxRecDepth 20000 in
set_option maxHeartbeats 2000000 in
theorem m_add_0 {E : AE} {l : Launch} {n m : Nat} {pt : Nat → ge_P} {rt : Nat → Nat} {h : AH} (R : ir n m pt rt h) {x y : Int} (hx : lo_r x) (hy : lo_r y) (hb : ¬ (pd_in x y ∧ n < 60)) : am_g E l 93 [.inr (.inr 24), .inl x, .inl y] h (rq n m pt rt h 0 (some (.inl (-1)))) := by
  have hQ : rq n m pt rt h 0 (some (.inl (-1))) (some (.inl (-1))) (am_up h 24 0 0) := rq_t R
  have p1 := R.1.1
  have p2 := R.1.2.1
  have e0 : am_up h 24 0 0 24 3 = h 24 3 := rfl
  unfold pd_in at hb
  refine am_met T_Mo_add (by decide) (Nat.le_of_ble_eq_true rfl) (fun J hJ => ?_)
  repeat (first | refine hJ _ _ _ _ ?_ | refine And.intro (by omega) (fun _ => ?_) | refine And.intro (by omega) ?_ | refine And.intro (fun _ => ?_) (by omega))
  refine s_Mo_isFar hx.1 hx.2 (fun g => ?_) (fun g => ?_)
  · repeat (first | refine hJ _ _ _ _ ?_ | refine And.intro (by omega) (fun _ => ?_) | refine And.intro (by omega) ?_ | refine And.intro (fun _ => ?_) (by omega))
    exact hQ
  · repeat (first | refine hJ _ _ _ _ ?_ | refine And.intro (by omega) (fun _ => ?_) | refine And.intro (by omega) ?_ | refine And.intro (fun _ => ?_) (by omega))
    refine s_Mo_isFar hy.1 hy.2 (fun g2 => ?_) (fun g2 => ?_)
    · repeat (first | refine hJ _ _ _ _ ?_ | refine And.intro (by omega) (fun _ => ?_) | refine And.intro (by omega) ?_ | refine And.intro (fun _ => ?_) (by omega))
      exact hQ
    · repeat (first | refine hJ _ _ _ _ ?_ | refine And.intro (by omega) (fun _ => ?_) | refine And.intro (by omega) ?_ | refine And.intro (fun _ => ?_) (by omega))
      exact hQ
theorem o_add {E : AE} {l : Launch} {s : State} {k : Nat} {h : AH} (I : iv k h) : op_add E l s (iv (k + 1)) h := by
  obtain ⟨n, m, pt, rt, rg, C, R⟩ := I
  intro x hx y hy
  by_cases hb : pd_in x y ∧ n < 60
  · exact op_i R (by omega) (by omega) (c_add_1 C hb.1 hb.2) (fun h1 R1 => m_add_1 R1 hb.1 hb.2)
  · exact op_i R (by decide) (by decide) (c_add_0 C hx hy hb) (fun h1 R1 => m_add_0 R1 hx hy hb)
/-! clear -/
theorem hv_0 {pt : Nat → ge_P} {h : AH} (e : h 4 3 = 0) : hv 0 pt h := ⟨e, fun j hj => absurd hj (Nat.not_lt_zero _)⟩
set_option maxRecDepth 20000 in
set_option maxHeartbeats 2000000 in
theorem c_clear {E : AE} {l : Launch} {k n m : Nat} {pt : Nat → ge_P} {rt : Nat → Nat} {rg : Nat → ge_P} {h : AH} (C : ic k n m pt rt rg h) : am_g E l 5 [.inr (.inr 0)] h (cq (k + 1) 0 0 pt rt rg h (some (.inl (n : Int)))) := by
  obtain ⟨⟨p1, p2, p3, p4⟩, ⟨r1, r2, r3⟩, v, hh, hl, hc, ht⟩ := C
  refine am_met T_De_clear (by decide) (Nat.le_of_ble_eq_true rfl) (fun J hJ => ?_)
  repeat (first | refine hJ _ _ _ _ ?_ | refine And.intro (by omega) (fun _ => ?_) | refine And.intro (by omega) ?_ | refine And.intro (fun _ => ?_) (by omega))
  refine s_Po_removeAll ?_
  repeat (first | refine hJ _ _ _ _ ?_ | refine And.intro (by omega) (fun _ => ?_) | refine And.intro (by omega) ?_ | refine And.intro (fun _ => ?_) (by omega))
  refine s_Ro_removeAll ?_
  generalize hg : am_up (am_up (am_up (am_up h 1 2 0) 1 3 (h 1 3 + 1)) 17 2 0) 17 3 (am_up (am_up h 1 2 0) 1 3 (h 1 3 + 1) 17 3 + 1) = g
  have o : ∀ c, c ≠ 1 → c ≠ 17 → g c = h c := fun c c1 c2 => by rw [← hg, am_up_o c2, am_up_o c2, am_up_o c1, am_up_o c1]
  have g12 : g 1 2 = 0 := by rw [← hg]; simp [am_up]
  have g13 : g 1 3 = h 1 3 + 1 := by rw [← hg]; simp [am_up]
  have g172 : g 17 2 = 0 := by rw [← hg]; simp [am_up]
  have g173 : g 17 3 = h 17 3 + 1 := by rw [← hg]; simp [am_up]
  clear hg
  repeat (first | refine hJ _ _ _ _ ?_ | refine And.intro (by omega) (fun _ => ?_) | refine And.intro (by omega) ?_ | refine And.intro (fun _ => ?_) (by omega))
  refine ⟨by rw [p1], fun c hc => o c (by omega) (by omega), ⟨g12, by omega, ?_, fun i hi => absurd hi (Nat.not_lt_zero _)⟩, ⟨g172, by omega, fun i hi => absurd hi (Nat.not_lt_zero _)⟩, ?_, ?_, ?_, ?_, ?_⟩
  · unfold pd_ok
    rw [o 2 (by decide) (by decide), o 3 (by decide) (by decide)]
    exact p3
  · unfold icV at *
    rw [g13, g173]
    omega
  · unfold icH at *
    rw [g13, o 4 (by decide) (by decide)]
    exact ⟨by omega, by omega, fun q => by omega⟩
  · unfold icL at *
    rw [g13, o 12 (by decide) (by decide)]
    exact ⟨by omega, by omega, fun q => by omega⟩
  · unfold icC at *
    rw [g173, o 19 (by decide) (by decide)]
    exact ⟨by omega, by omega, fun q => by omega⟩
  · unfold icT at *
    rw [g173, o 21 (by decide) (by decide)]
    exact ⟨by omega, by omega, fun q => by omega⟩
set_option maxRecDepth 20000 in
set_option maxHeartbeats 2000000 in
theorem m_clear {E : AE} {l : Launch} {n m : Nat} {pt : Nat → ge_P} {rt : Nat → Nat} {h : AH} (R : ir n m pt rt h) : am_g E l 94 [.inr (.inr 24)] h (rq 0 0 pt rt h 0 (some (.inl (n : Int)))) := by
  obtain ⟨⟨p1, p2, p3, p4⟩, r1, r2⟩ := R
  refine am_met T_Mo_clear (by decide) (Nat.le_of_ble_eq_true rfl) (fun J hJ => ?_)
  repeat (first | refine hJ _ _ _ _ ?_ | refine And.intro (by omega) (fun _ => ?_) | refine And.intro (by omega) ?_ | refine And.intro (fun _ => ?_) (by omega))
  refine ⟨?_, fun c hc => ?_, rfl, ⟨rfl, by omega, fun i hi => absurd hi (Nat.not_lt_zero _), fun i hi => absurd hi (Nat.not_lt_zero _)⟩, rfl, fun i hi => absurd hi (Nat.not_lt_zero _)⟩
  · show (some (Sum.inl (h 24 3)) : Option AV) = _
    rw [p1]
  · rw [am_up_o (by omega), am_up_o (by omega), am_up_o (by omega)]
theorem o_clear {E : AE} {l : Launch} {s : State} {k : Nat} {h : AH} (I : iv k h) : op_clear E l s (iv (k + 1)) h := by
  obtain ⟨n, m, pt, rt, rg, C, R⟩ := I
  have := R.1.2.1
  exact op_i R (by omega) (by omega) (c_clear C) (fun h1 R1 => m_clear R1)
/-! go -/
def rt_go (rt : Nat → Nat) (m p : Nat) : Nat → Nat := fun j => if j = m then p else rt j
def rg_go (rg : Nat → ge_P) (m : Nat) (x : ge_P) : Nat → ge_P := fun j => if j = m then x else rg j
set_option maxRecDepth 20000 in
set_option maxHeartbeats 2000000 in
theorem s_Ro_append {E : AE} {l : Launch} {h : AH} (n1 : 0 ≤ h 17 2) (n2 : h 17 2 < 40) {x : Int} {Q : AR} (hQ : Q none (am_up (am_up (am_up h 18 (h 17 2).toNat x) 17 2 (h 17 2 + 1)) 17 3 (h 17 3 + 1))) : am_g E l 53 [.inr (.inr 17), .inl x] h Q := by
  refine am_met T_Ro_append (by decide) (Nat.le_of_ble_eq_true rfl) (fun J hJ => ?_)
  repeat (first | refine hJ _ _ _ _ ?_ | refine And.intro (by omega) (fun _ => ?_) | refine And.intro (by omega) ?_ | refine And.intro (fun _ => ?_) (by omega))
  exact hQ
set_option maxRecDepth 20000 in
set_option maxHeartbeats 2000000 in
theorem c_go_1 {E : AE} {l : Launch} {k n m : Nat} {pt : Nat → ge_P} {rt : Nat → Nat} {rg : Nat → ge_P} {h : AH} (C : ic k n m pt rt rg h) {p : Nat} (hp : p < n) (hm : m < 40) : am_g E l 54 [.inr (.inr 0), .inl (p : Int)] h (cq (k + 1) n (m + 1) pt (rt_go rt m p) (rg_go rg m (pt p)) h (some (.inl ((m : Int) + 1)))) := by
  obtain ⟨P, ⟨r1, r2, r3⟩, v, hh, hl, hc, ht⟩ := C
  have p1 := P.1
  have p2 := P.2.1
  refine am_met T_De_go (by decide) (Nat.le_of_ble_eq_true rfl) (fun J hJ => ?_)
  repeat (first | refine hJ _ _ _ _ ?_ | refine And.intro (by omega) (fun _ => ?_) | refine And.intro (by omega) ?_ | refine And.intro (fun _ => ?_) (by omega))
  refine s_Po_has p1 p2 (by omega) (by omega) (fun _ => ?_) (fun g => absurd (show (0 : Int) ≤ p ∧ (p : Int) < n by omega) g)
  repeat (first | refine hJ _ _ _ _ ?_ | refine And.intro (by omega) (fun _ => ?_) | refine And.intro (by omega) ?_ | refine And.intro (fun _ => ?_) (by omega))
  refine s_Ro_append (by omega) (by omega) ?_
  have e2 : (h 17 2).toNat = m := by omega
  rw [e2, r1]
  generalize hg : am_up (am_up (am_up h 18 m (p : Int)) 17 2 ((m : Int) + 1)) 17 3 (h 17 3 + 1) = g
  have o : ∀ c, c ≠ 18 → c ≠ 17 → g c = h c := fun c c1 c2 => by rw [← hg, am_up_o c2, am_up_o c2, am_up_o c1]
  have g172 : g 17 2 = (m : Int) + 1 := by rw [← hg]; simp [am_up]
  have g173 : g 17 3 = h 17 3 + 1 := by rw [← hg]; simp [am_up]
  have g18 : ∀ j, g 18 j = if j = m then (p : Int) else h 18 j := fun j => by rw [← hg]; simp [am_up]
  clear hg
  repeat (first | refine hJ _ _ _ _ ?_ | refine And.intro (by omega) (fun _ => ?_) | refine And.intro (by omega) ?_ | refine And.intro (fun _ => ?_) (by omega))
  refine ⟨by rw [g172], fun c hc => o c (by omega) (by omega), icP_cg P (o _ (by decide) (by decide)) (o _ (by decide) (by decide)) (o _ (by decide) (by decide)), ⟨by rw [g172]; rfl, by omega, fun j hj => ?_⟩, ?_, icH_cg hh (o _ (by decide) (by decide)) (o _ (by decide) (by decide)) (o _ (by decide) (by decide)), icL_cg hl (o _ (by decide) (by decide)) (o _ (by decide) (by decide)) (o _ (by decide) (by decide)), ?_, ?_⟩
  · rw [g18]
    unfold rt_go rg_go
    by_cases hj2 : j = m
    · rw [if_pos hj2, if_pos hj2, if_pos hj2]
      exact ⟨rfl, hp, rfl⟩
    · rw [if_neg hj2, if_neg hj2, if_neg hj2]
      exact r3 j (by omega)
  · unfold icV at *
    rw [g173, o 1 (by decide) (by decide)]
    omega
  · unfold icC at *
    rw [g173, o 19 (by decide) (by decide)]
    exact ⟨by omega, by omega, fun q => by omega⟩
  · unfold icT at *
    rw [g173, o 21 (by decide) (by decide)]
    exact ⟨by omega, by omega, fun q => by omega⟩
set_option maxRecDepth 20000 in
set_option maxHeartbeats 2000000 in
theorem c_go_0 {E : AE} {l : Launch} {k n m : Nat} {pt : Nat → ge_P} {rt : Nat → Nat} {rg : Nat → ge_P} {h : AH} (C : ic k n m pt rt rg h) {x : Int} (hx : lo_r x) (hb : ¬ ((0 ≤ x ∧ x < n) ∧ m < 40)) : am_g E l 54 [.inr (.inr 0), .inl x] h (cq (k + 1) n m pt rt rg h (some (.inl (-1)))) := by
  have p1 := C.1.1
  have p2 := C.1.2.1
  have r1 := C.2.1.1
  have r2 := C.2.1.2.1
  have hC : cq (k + 1) n m pt rt rg h (some (.inl (-1))) (some (.inl (-1))) h := ⟨rfl, fun _ _ => rfl, ic_mono C (by omega)⟩
  refine am_met T_De_go (by decide) (Nat.le_of_ble_eq_true rfl) (fun J hJ => ?_)
  repeat (first | refine hJ _ _ _ _ ?_ | refine And.intro (by omega) (fun _ => ?_) | refine And.intro (by omega) ?_ | refine And.intro (fun _ => ?_) (by omega))
  refine s_Po_has p1 p2 hx.1 hx.2 (fun g => ?_) (fun g => ?_)
  · repeat (first | refine hJ _ _ _ _ ?_ | refine And.intro (by omega) (fun _ => ?_) | refine And.intro (by omega) ?_ | refine And.intro (fun _ => ?_) (by omega))
    exact hC
  · repeat (first | refine hJ _ _ _ _ ?_ | refine And.intro (by omega) (fun _ => ?_) | refine And.intro (by omega) ?_ | refine And.intro (fun _ => ?_) (by omega))
    exact hC
set_option maxRecDepth 20000 in
set_option maxHeartbeats 2000000 in
theorem m_go_1 {E : AE} {l : Launch} {n m : Nat} {pt : Nat → ge_P} {rt : Nat → Nat} {h : AH} (R : ir n m pt rt h) {p : Nat} (hp : p < n) (hm : m < 40) : am_g E l 129 [.inr (.inr 24), .inl (p : Int)] h (rq n (m + 1) pt (rt_go rt m p) h 0 (some (.inl ((m : Int) + 1)))) := by
  obtain ⟨P, r1, r2⟩ := R
  have p1 := P.1
  have p2 := P.2.1
  have e0 : am_up h 24 0 0 24 3 = h 24 3 := rfl
  have e1 : am_up h 24 0 0 24 5 = h 24 5 := rfl
  refine am_met T_Mo_go (by decide) (Nat.le_of_ble_eq_true rfl) (fun J hJ => ?_)
  repeat (first | refine hJ _ _ _ _ ?_ | refine And.intro (by omega) (fun _ => ?_) | refine And.intro (by omega) ?_ | refine And.intro (fun _ => ?_) (by omega))
  refine s_Mo_isPoint (by rw [e0]; exact p1) p2 (by omega) (by omega) (fun _ => ?_) (fun g => absurd (show (0 : Int) ≤ p ∧ (p : Int) < n by omega) g)
  repeat (first | refine hJ _ _ _ _ ?_ | refine And.intro (by omega) (fun _ => ?_) | refine And.intro (by omega) ?_ | refine And.intro (fun _ => ?_) (by omega))
  have e2 : (h 24 5).toNat = m := by omega
  refine ⟨?_, fun c hc => ?_, rfl, mp_cg P rfl rfl rfl, ?_, fun j hj => ?_⟩
  · show (some (Sum.inl (h 24 5 + 1)) : Option AV) = _
    rw [r1]
  · rw [am_up_o (by omega), am_up_o (by omega), am_up_o (by omega)]
  · show h 24 5 + 1 = _
    rw [r1]; rfl
  · show am_up h 27 (h 24 5).toNat (p : Int) 27 j = _
    rw [e2]
    unfold rt_go
    simp only [am_up]
    by_cases hin : j = m
    · simp [hin]
    · simp [hin]
      exact r2 j (by omega)
set_option maxRecDepth 20000 in
set_option maxHeartbeats 2000000 in
theorem m_go_0 {E : AE} {l : Launch} {n m : Nat} {pt : Nat → ge_P} {rt : Nat → Nat} {h : AH} (R : ir n m pt rt h) (hm : m ≤ 40) {x : Int} (hx : lo_r x) (hb : ¬ ((0 ≤ x ∧ x < n) ∧ m < 40)) : am_g E l 129 [.inr (.inr 24), .inl x] h (rq n m pt rt h 0 (some (.inl (-1)))) := by
  have hQ : rq n m pt rt h 0 (some (.inl (-1))) (some (.inl (-1))) (am_up h 24 0 0) := rq_t R
  obtain ⟨P, r1, r2⟩ := R
  have p1 := P.1
  have p2 := P.2.1
  have e0 : am_up h 24 0 0 24 3 = h 24 3 := rfl
  have e1 : am_up h 24 0 0 24 5 = h 24 5 := rfl
  refine am_met T_Mo_go (by decide) (Nat.le_of_ble_eq_true rfl) (fun J hJ => ?_)
  repeat (first | refine hJ _ _ _ _ ?_ | refine And.intro (by omega) (fun _ => ?_) | refine And.intro (by omega) ?_ | refine And.intro (fun _ => ?_) (by omega))
  refine s_Mo_isPoint (by rw [e0]; exact p1) p2 hx.1 hx.2 (fun g => ?_) (fun g => ?_)
  · repeat (first | refine hJ _ _ _ _ ?_ | refine And.intro (by omega) (fun _ => ?_) | refine And.intro (by omega) ?_ | refine And.intro (fun _ => ?_) (by omega))
    exact hQ
  · repeat (first | refine hJ _ _ _ _ ?_ | refine And.intro (by omega) (fun _ => ?_) | refine And.intro (by omega) ?_ | refine And.intro (fun _ => ?_) (by omega))
    exact hQ
theorem o_go {E : AE} {l : Launch} {s : State} {k : Nat} {h : AH} (I : iv k h) : op_go E l s (iv (k + 1)) h := by
  obtain ⟨n, m, pt, rt, rg, C, R⟩ := I
  have hm := C.2.1.2.1
  intro x hx
  by_cases hb : (0 ≤ x ∧ x < n) ∧ m < 40
  · obtain ⟨p, rfl⟩ : ∃ p : Nat, x = (p : Int) := ⟨x.toNat, by omega⟩
    exact op_i R (by omega) (by omega) (c_go_1 C (by omega) hb.2) (fun h1 R1 => m_go_1 R1 (by omega) hb.2)
  · exact op_i R (by decide) (by decide) (c_go_0 C hx hb) (fun h1 R1 => m_go_0 R1 hm hx hb)
/-! stop -/
set_option maxRecDepth 20000 in
set_option maxHeartbeats 2000000 in
theorem c_stop {E : AE} {l : Launch} {k n m : Nat} {pt : Nat → ge_P} {rt : Nat → Nat} {rg : Nat → ge_P} {h : AH} (C : ic k n m pt rt rg h) : am_g E l 55 [.inr (.inr 0)] h (cq (k + 1) n 0 pt rt rg h (some (.inl (m : Int)))) := by
  obtain ⟨P, ⟨r1, r2, r3⟩, v, hh, hl, hc, ht⟩ := C
  refine am_met T_De_stop (by decide) (Nat.le_of_ble_eq_true rfl) (fun J hJ => ?_)
  repeat (first | refine hJ _ _ _ _ ?_ | refine And.intro (by omega) (fun _ => ?_) | refine And.intro (by omega) ?_ | refine And.intro (fun _ => ?_) (by omega))
  refine s_Ro_removeAll ?_
  generalize hg : am_up (am_up h 17 2 0) 17 3 (h 17 3 + 1) = g
  have o : ∀ c, c ≠ 17 → g c = h c := fun c c2 => by rw [← hg, am_up_o c2, am_up_o c2]
  have g172 : g 17 2 = 0 := by rw [← hg]; simp [am_up]
  have g173 : g 17 3 = h 17 3 + 1 := by rw [← hg]; simp [am_up]
  clear hg
  repeat (first | refine hJ _ _ _ _ ?_ | refine And.intro (by omega) (fun _ => ?_) | refine And.intro (by omega) ?_ | refine And.intro (fun _ => ?_) (by omega))
  refine ⟨by rw [r1], fun c hc => o c (by omega), icP_cg P (o _ (by decide)) (o _ (by decide)) (o _ (by decide)), ⟨g172, by omega, fun i hi => absurd hi (Nat.not_lt_zero _)⟩, ?_, icH_cg hh (o _ (by decide)) (o _ (by decide)) (o _ (by decide)), icL_cg hl (o _ (by decide)) (o _ (by decide)) (o _ (by decide)), ?_, ?_⟩
  · unfold icV at *
    rw [g173, o 1 (by decide)]
    omega
  · unfold icC at *
    rw [g173, o 19 (by decide)]
    exact ⟨by omega, by omega, fun q => by omega⟩
  · unfold icT at *
    rw [g173, o 21 (by decide)]
    exact ⟨by omega, by omega, fun q => by omega⟩
set_option maxRecDepth 20000 in
set_option maxHeartbeats 2000000 in
theorem m_stop {E : AE} {l : Launch} {n m : Nat} {pt : Nat → ge_P} {rt : Nat → Nat} {h : AH} (R : ir n m pt rt h) : am_g E l 130 [.inr (.inr 24)] h (rq n 0 pt rt h 0 (some (.inl (m : Int)))) := by
  obtain ⟨P, r1, r2⟩ := R
  refine am_met T_Mo_stop (by decide) (Nat.le_of_ble_eq_true rfl) (fun J hJ => ?_)
  repeat (first | refine hJ _ _ _ _ ?_ | refine And.intro (by omega) (fun _ => ?_) | refine And.intro (by omega) ?_ | refine And.intro (fun _ => ?_) (by omega))
  refine ⟨?_, fun c hc => ?_, rfl, mp_cg P rfl rfl rfl, rfl, fun i hi => absurd hi (Nat.not_lt_zero _)⟩
  · show (some (Sum.inl (h 24 5)) : Option AV) = _
    rw [r1]
  · rw [am_up_o (by omega), am_up_o (by omega)]
theorem o_stop {E : AE} {l : Launch} {s : State} {k : Nat} {h : AH} (I : iv k h) : op_stop E l s (iv (k + 1)) h := by
  obtain ⟨n, m, pt, rt, rg, C, R⟩ := I
  have := C.2.1.2.1
  exact op_i R (by omega) (by omega) (c_stop C) (fun h1 R1 => m_stop R1)
/-! place -/
set_option maxRecDepth 20000 in
set_option maxHeartbeats 2000000 in
theorem c_place {E : AE} {l : Launch} {k n m : Nat} {pt : Nat → ge_P} {rt : Nat → Nat} {rg : Nat → ge_P} {h : AH} (C : ic k n m pt rt rg h) {x : Int} (hx : lo_r x) : am_g E l 56 [.inr (.inr 0), .inl x] h (cq (k + 1) n m pt rt rg h (some (.inl (if 0 ≤ x ∧ x < m then (rt x.toNat : Int) else -1)))) := by
  have hC : ∀ v, cq (k + 1) n m pt rt rg h v v h := fun v => ⟨rfl, fun _ _ => rfl, ic_mono C (by omega)⟩
  obtain ⟨P, ⟨r1, r2, r3⟩, -⟩ := C
  refine am_met T_De_place (by decide) (Nat.le_of_ble_eq_true rfl) (fun J hJ => ?_)
  repeat (first | refine hJ _ _ _ _ ?_ | refine And.intro (by omega) (fun _ => ?_) | refine And.intro (by omega) ?_ | refine And.intro (fun _ => ?_) (by omega))
  refine And.intro (fun hc => ?_) (fun hc => ?_)
  · repeat (first | refine hJ _ _ _ _ ?_ | refine And.intro (by omega) (fun _ => ?_) | refine And.intro (by omega) ?_ | refine And.intro (fun _ => ?_) (by omega))
    rw [if_neg (by omega)]
    exact hC _
  · repeat (first | refine hJ _ _ _ _ ?_ | refine And.intro (by omega) (fun _ => ?_) | refine And.intro (by omega) ?_ | refine And.intro (fun _ => ?_) (by omega))
    refine And.intro (fun hd => ?_) (fun hd => ?_)
    · repeat (first | refine hJ _ _ _ _ ?_ | refine And.intro (by omega) (fun _ => ?_) | refine And.intro (by omega) ?_ | refine And.intro (fun _ => ?_) (by omega))
      rw [if_neg (by omega)]
      exact hC _
    · repeat (first | refine hJ _ _ _ _ ?_ | refine And.intro (by omega) (fun _ => ?_) | refine And.intro (by omega) ?_ | refine And.intro (fun _ => ?_) (by omega))
      rw [if_pos (by omega), ← (r3 x.toNat (by omega)).1]
      exact hC _
set_option maxRecDepth 20000 in
set_option maxHeartbeats 2000000 in
theorem m_place {E : AE} {l : Launch} {n m : Nat} {pt : Nat → ge_P} {rt : Nat → Nat} {h : AH} (R : ir n m pt rt h) (hm : m ≤ 40) {x : Int} (hx : lo_r x) : am_g E l 131 [.inr (.inr 24), .inl x] h (rq n m pt rt h 0 (some (.inl (if 0 ≤ x ∧ x < m then (rt x.toNat : Int) else -1)))) := by
  have hQ : ∀ v, rq n m pt rt h 0 v v (am_up h 24 0 0) := fun v => rq_t R
  obtain ⟨P, r1, r2⟩ := R
  have e1 : am_up h 24 0 0 24 5 = h 24 5 := rfl
  refine am_met T_Mo_place (by decide) (Nat.le_of_ble_eq_true rfl) (fun J hJ => ?_)
  repeat (first | refine hJ _ _ _ _ ?_ | refine And.intro (by omega) (fun _ => ?_) | refine And.intro (by omega) ?_ | refine And.intro (fun _ => ?_) (by omega))
  refine And.intro (fun hc => ?_) (fun hc => ?_)
  · repeat (first | refine hJ _ _ _ _ ?_ | refine And.intro (by omega) (fun _ => ?_) | refine And.intro (by omega) ?_ | refine And.intro (fun _ => ?_) (by omega))
    rw [if_neg (by omega)]
    exact hQ _
  · repeat (first | refine hJ _ _ _ _ ?_ | refine And.intro (by omega) (fun _ => ?_) | refine And.intro (by omega) ?_ | refine And.intro (fun _ => ?_) (by omega))
    refine And.intro (fun hd => ?_) (fun hd => ?_)
    · repeat (first | refine hJ _ _ _ _ ?_ | refine And.intro (by omega) (fun _ => ?_) | refine And.intro (by omega) ?_ | refine And.intro (fun _ => ?_) (by omega))
      rw [if_neg (by omega)]
      exact hQ _
    · repeat (first | refine hJ _ _ _ _ ?_ | refine And.intro (by omega) (fun _ => ?_) | refine And.intro (by omega) ?_ | refine And.intro (fun _ => ?_) (by omega))
      rw [if_pos (by omega), ← r2 x.toNat (by omega)]
      exact hQ _
theorem o_place {E : AE} {l : Launch} {s : State} {k : Nat} {h : AH} (I : iv k h) : op_place E l s (iv (k + 1)) h := by
  obtain ⟨n, m, pt, rt, rg, C, R⟩ := I
  intro x hx
  have hm := C.2.1.2.1
  have n60 := C.1.2.1
  have hr := C.2.1.2.2 x.toNat
  have b : -2147483648 ≤ (if 0 ≤ x ∧ x < m then (rt x.toNat : Int) else -1) ∧ (if 0 ≤ x ∧ x < m then (rt x.toNat : Int) else -1) < 2147483648 := by
    split
    · have := hr (by omega); omega
    · omega
  exact op_i R b.1 b.2 (c_place C hx) (fun h1 R1 => m_place R1 hm hx)
