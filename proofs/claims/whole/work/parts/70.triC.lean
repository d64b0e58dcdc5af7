/-! the class: triangles -/
/-- the places that are left, in the heap -/
def lk (h : AH) (m : Nat) (L : List Nat) : Prop := h 21 6 = (L.length : Int) ∧ L.length ≤ 40 ∧ (∀ a, a ∈ L → a < m) ∧ ∀ j, j < L.length → h 23 j = ((L.getD j 0 : Nat) : Int)
theorem lk_p {h : AH} {m : Nat} {rg : Nat → ge_P} {L : List Nat} (K : rk h m rg) (G : lk h m L) {j : Nat} (hj : j < L.length) : (0 ≤ h 23 j ∧ h 23 j < 40) ∧ 0 ≤ h 18 (h 23 j).toNat ∧ h 18 (h 23 j).toNat < 60 ∧ pd_p h (h 18 (h 23 j).toNat) = rg (L.getD j 0) := by
  have m40 := K.2.1
  have e := G.2.2.2 j hj
  have hm := G.2.2.1 _ (tr_mem hj)
  have r := K.2.2 _ hm
  have et : (h 23 j).toNat = L.getD j 0 := by omega
  rw [et]
  exact ⟨by omega, r⟩
set_option maxRecDepth 20000 in
set_option maxHeartbeats 2000000 in
theorem s_Tr_before {E : AE} {l : Launch} {h : AH} {q : Nat} (hq : h 21 6 = (q : Int)) (q40 : q ≤ 40) {i : Nat} (hi : i < q) {Q : AR} (hQ : Q (some (.inl (bx q i : Int))) h) : am_g E l 76 [.inr (.inr 21), .inl (i : Int)] h Q := by
  refine am_met T_Tr_before (by decide) (Nat.le_of_ble_eq_true rfl) (fun J hJ => ?_)
  by_cases hx : 0 < i
  · have e : ((bx q i : Nat) : Int) = (i : Int) - 1 := by
      rw [show bx q i = i - 1 from if_pos hx]; omega
    rw [e] at hQ
    repeat (first | refine hJ _ _ _ _ ?_ | refine And.intro (by omega) (fun _ => ?_) | refine And.intro (by omega) ?_ | refine And.intro (fun _ => ?_) (by omega))
    exact hQ
  · have e : ((bx q i : Nat) : Int) = h 21 6 - 1 := by
      rw [show bx q i = q - 1 from if_neg hx]; omega
    rw [e] at hQ
    repeat (first | refine hJ _ _ _ _ ?_ | refine And.intro (by omega) (fun _ => ?_) | refine And.intro (by omega) ?_ | refine And.intro (fun _ => ?_) (by omega))
    exact hQ
set_option maxRecDepth 20000 in
set_option maxHeartbeats 2000000 in
theorem s_Tr_behind {E : AE} {l : Launch} {h : AH} {q : Nat} (hq : h 21 6 = (q : Int)) (q40 : q ≤ 40) {i : Nat} (hi : i < q) {Q : AR} (hQ : Q (some (.inl (nx q i : Int))) h) : am_g E l 77 [.inr (.inr 21), .inl (i : Int)] h Q := by
  refine am_met T_Tr_behind (by decide) (Nat.le_of_ble_eq_true rfl) (fun J hJ => ?_)
  by_cases hx : i + 1 < q
  · rw [show nx q i = i + 1 from if_pos hx] at hQ
    repeat (first | refine hJ _ _ _ _ ?_ | refine And.intro (by omega) (fun _ => ?_) | refine And.intro (by omega) ?_ | refine And.intro (fun _ => ?_) (by omega))
    exact hQ
  · rw [show nx q i = 0 from if_neg hx] at hQ
    repeat (first | refine hJ _ _ _ _ ?_ | refine And.intro (by omega) (fun _ => ?_) | refine And.intro (by omega) ?_ | refine And.intro (fun _ => ?_) (by omega))
    exact hQ
theorem s_b {s x : Int} (hs : s = 1 ∨ s = -1) (hx : -80000000000 ≤ x ∧ x ≤ 80000000000) : -80000000000 ≤ s * x ∧ s * x ≤ 80000000000 := by
  rcases hs with rfl | rfl <;> omega
set_option maxRecDepth 20000 in
set_option maxHeartbeats 2000000 in
theorem s_Tr_turnInwards {E : AE} {l : Launch} {h : AH} (H : pd_ok h) {s : Int} (hs : s = 1 ∨ s = -1) (h7 : h 21 7 = s) {a p b : Int} (a1 : 0 ≤ a) (a2 : a < 60) (p1 : 0 ≤ p) (p2 : p < 60) (b1 : 0 ≤ b) (b2 : b < 60) {Q : AR} (hQ : Q (some (.inr (.inl (s * ge_x (pd_p h a) (pd_p h p) (pd_p h b))))) h) : am_g E l 78 [.inr (.inr 21), .inl a, .inl p, .inl b] h Q := by
  have hr : -1 ≤ s ∧ s ≤ 1 := by rcases hs with rfl | rfl <;> decide
  refine am_met T_Tr_turnInwards (by decide) (Nat.le_of_ble_eq_true rfl) (fun J hJ => ?_)
  repeat (first | refine hJ _ _ _ _ ?_ | refine And.intro (by omega) (fun _ => ?_) | refine And.intro (by omega) ?_ | refine And.intro (fun _ => ?_) (by omega))
  refine s_Po_crossProduct H a1 (by omega) p1 (by omega) b1 (by omega) ?_
  repeat (first | refine hJ _ _ _ _ ?_ | refine And.intro (by omega) (fun _ => ?_) | refine And.intro (by omega) ?_ | refine And.intro (fun _ => ?_) (by omega))
  rw [h7]
  exact hQ
set_option maxRecDepth 20000 in
set_option maxHeartbeats 2000000 in
theorem s_Tr_isInTriangle {E : AE} {l : Launch} {h : AH} (H : pd_ok h) {s : Int} (hs : s = 1 ∨ s = -1) (h7 : h 21 7 = s) {a p b q : Int} (a1 : 0 ≤ a) (a2 : a < 60) (p1 : 0 ≤ p) (p2 : p < 60) (b1 : 0 ≤ b) (b2 : b < 60) (q1 : 0 ≤ q) (q2 : q < 60) {Q : AR} (h1 : tr_x s (pd_p h a) (pd_p h p) (pd_p h b) (pd_p h q) → Q (some (.inl 1)) h) (h0 : ¬ tr_x s (pd_p h a) (pd_p h p) (pd_p h b) (pd_p h q) → Q (some (.inl 0)) h) : am_g E l 79 [.inr (.inr 21), .inl a, .inl p, .inl b, .inl q] h Q := by
  have hr : -1 ≤ s ∧ s ≤ 1 := by rcases hs with rfl | rfl <;> decide
  have x1 := s_b hs (pd_x_b H a1 (show a < 61 by omega) p1 (show p < 61 by omega) q1 (show q < 61 by omega))
  have x2 := s_b hs (pd_x_b H p1 (show p < 61 by omega) b1 (show b < 61 by omega) q1 (show q < 61 by omega))
  have x3 := s_b hs (pd_x_b H b1 (show b < 61 by omega) a1 (show a < 61 by omega) q1 (show q < 61 by omega))
  unfold tr_x at h1 h0
  refine am_met T_Tr_isInTriangle (by decide) (Nat.le_of_ble_eq_true rfl) (fun J hJ => ?_)
  repeat (first | refine hJ _ _ _ _ ?_ | refine And.intro (by omega) (fun _ => ?_) | refine And.intro (by omega) ?_ | refine And.intro (fun _ => ?_) (by omega))
  refine s_Po_crossProduct H a1 (by omega) p1 (by omega) q1 (by omega) ?_
  rw [h7]
  repeat (first | refine hJ _ _ _ _ ?_ | refine And.intro (by omega) (fun _ => ?_) | refine And.intro (by omega) ?_ | refine And.intro (fun _ => ?_) (by omega))
  refine And.intro (fun g1 => ?_) (fun g1 => ?_)
  · repeat (first | refine hJ _ _ _ _ ?_ | refine And.intro (by omega) (fun _ => ?_) | refine And.intro (by omega) ?_ | refine And.intro (fun _ => ?_) (by omega))
    exact h0 (fun g => by omega)
  · repeat (first | refine hJ _ _ _ _ ?_ | refine And.intro (by omega) (fun _ => ?_) | refine And.intro (by omega) ?_ | refine And.intro (fun _ => ?_) (by omega))
    refine s_Po_crossProduct H p1 (by omega) b1 (by omega) q1 (by omega) ?_
    rw [h7]
    repeat (first | refine hJ _ _ _ _ ?_ | refine And.intro (by omega) (fun _ => ?_) | refine And.intro (by omega) ?_ | refine And.intro (fun _ => ?_) (by omega))
    refine And.intro (fun g2 => ?_) (fun g2 => ?_)
    · repeat (first | refine hJ _ _ _ _ ?_ | refine And.intro (by omega) (fun _ => ?_) | refine And.intro (by omega) ?_ | refine And.intro (fun _ => ?_) (by omega))
      exact h0 (fun g => by omega)
    · repeat (first | refine hJ _ _ _ _ ?_ | refine And.intro (by omega) (fun _ => ?_) | refine And.intro (by omega) ?_ | refine And.intro (fun _ => ?_) (by omega))
      refine s_Po_crossProduct H b1 (by omega) a1 (by omega) q1 (by omega) ?_
      rw [h7]
      repeat (first | refine hJ _ _ _ _ ?_ | refine And.intro (by omega) (fun _ => ?_) | refine And.intro (by omega) ?_ | refine And.intro (fun _ => ?_) (by omega))
      refine And.intro (fun g3 => ?_) (fun g3 => ?_)
      · repeat (first | refine hJ _ _ _ _ ?_ | refine And.intro (by omega) (fun _ => ?_) | refine And.intro (by omega) ?_ | refine And.intro (fun _ => ?_) (by omega))
        exact h0 (fun g => by omega)
      · repeat (first | refine hJ _ _ _ _ ?_ | refine And.intro (by omega) (fun _ => ?_) | refine And.intro (by omega) ?_ | refine And.intro (fun _ => ?_) (by omega))
        exact h1 ⟨g1, g2, g3⟩
set_option maxRecDepth 20000 in
set_option maxHeartbeats 2000000 in
theorem s_Tr_isEar {E : AE} {l : Launch} {h : AH} (H : pd_ok h) {m : Nat} {rg : Nat → ge_P} (K : rk h m rg) {s : Int} (hs : s = 1 ∨ s = -1) (h7 : h 21 7 = s) {L : List Nat} (G : lk h m L) {i : Nat} (hi : i < L.length) {Q : AR} (h1 : tr_e rg s L i → Q (some (.inl 1)) h) (h0 : ¬ tr_e rg s L i → Q (some (.inl 0)) h) : am_g E l 80 [.inr (.inr 21), .inl (i : Int)] h Q := by
  have h6 := G.1
  have q40 := G.2.1
  have hbx := bx_lt hi
  have hnx := nx_lt hi
  have wa : (0 ≤ h 23 (Int.toNat (bx L.length i : Int)) ∧ h 23 (Int.toNat (bx L.length i : Int)) < 40) ∧ 0 ≤ h 18 (h 23 (Int.toNat (bx L.length i : Int))).toNat ∧ h 18 (h 23 (Int.toNat (bx L.length i : Int))).toNat < 60 ∧ pd_p h (h 18 (h 23 (Int.toNat (bx L.length i : Int))).toNat) = rg (L.getD (bx L.length i) 0) := lk_p K G hbx
  have wp : (0 ≤ h 23 (Int.toNat (i : Int)) ∧ h 23 (Int.toNat (i : Int)) < 40) ∧ 0 ≤ h 18 (h 23 (Int.toNat (i : Int))).toNat ∧ h 18 (h 23 (Int.toNat (i : Int))).toNat < 60 ∧ pd_p h (h 18 (h 23 (Int.toNat (i : Int))).toNat) = rg (L.getD i 0) := lk_p K G hi
  have wb : (0 ≤ h 23 (Int.toNat (nx L.length i : Int)) ∧ h 23 (Int.toNat (nx L.length i : Int)) < 40) ∧ 0 ≤ h 18 (h 23 (Int.toNat (nx L.length i : Int))).toNat ∧ h 18 (h 23 (Int.toNat (nx L.length i : Int))).toNat < 60 ∧ pd_p h (h 18 (h 23 (Int.toNat (nx L.length i : Int))).toNat) = rg (L.getD (nx L.length i) 0) := lk_p K G hnx
  have xb := s_b hs (pd_x_b H wa.2.1 (Int.lt_trans wa.2.2.1 (by decide)) wp.2.1 (Int.lt_trans wp.2.2.1 (by decide)) wb.2.1 (Int.lt_trans wb.2.2.1 (by decide)))
  rw [wa.2.2.2, wp.2.2.2, wb.2.2.2] at xb
  refine am_met T_Tr_isEar (by decide) (Nat.le_of_ble_eq_true rfl) (fun J hJ => ?_)
  have loop : ∀ d k : Nat, k + d = L.length → 0 < s * ge_x (rg (L.getD (bx L.length i) 0)) (rg (L.getD i 0)) (rg (L.getD (nx L.length i) 0)) → (∀ j, j < k → j ≠ bx L.length i → j ≠ i → j ≠ nx L.length i → ¬ tr_x s (rg (L.getD (bx L.length i) 0)) (rg (L.getD i 0)) (rg (L.getD (nx L.length i) 0)) (rg (L.getD j 0))) → J 80 [some (.inr (.inr 21)), some (.inl (i : Int)), some (.inl (bx L.length i : Int)), some (.inl (nx L.length i : Int)), some (.inl (h 18 (h 23 (Int.toNat (bx L.length i : Int))).toNat)), some (.inl (h 18 (h 23 (Int.toNat (i : Int))).toNat)), some (.inl (h 18 (h 23 (Int.toNat (nx L.length i : Int))).toNat)), some (.inl (k : Int))] [] h := by
    intro d
    induction d with
    | zero =>
      intro k hk hx hall
      have ek : k = L.length := by omega
      rw [ek] at hall
      repeat (first | refine hJ _ _ _ _ ?_ | refine And.intro (by omega) (fun _ => ?_) | refine And.intro (by omega) ?_ | refine And.intro (fun _ => ?_) (by omega))
      exact h1 ⟨hx, hall⟩
    | succ d ih =>
      intro k hk hx hall
      have wk : (0 ≤ h 23 (Int.toNat (k : Int)) ∧ h 23 (Int.toNat (k : Int)) < 40) ∧ 0 ≤ h 18 (h 23 (Int.toNat (k : Int))).toNat ∧ h 18 (h 23 (Int.toNat (k : Int))).toNat < 60 ∧ pd_p h (h 18 (h 23 (Int.toNat (k : Int))).toNat) = rg (L.getD k 0) := lk_p K G (show k < L.length by omega)
      have skip : (k = bx L.length i ∨ k = i ∨ k = nx L.length i) → ∀ j, j < k + 1 → j ≠ bx L.length i → j ≠ i → j ≠ nx L.length i → ¬ tr_x s (rg (L.getD (bx L.length i) 0)) (rg (L.getD i 0)) (rg (L.getD (nx L.length i) 0)) (rg (L.getD j 0)) := fun g j hj j1 j2 j3 => hall j (by omega) j1 j2 j3
      repeat (first | refine hJ _ _ _ _ ?_ | refine And.intro (by omega) (fun _ => ?_) | refine And.intro (by omega) ?_ | refine And.intro (fun _ => ?_) (by omega))
      refine And.intro (fun g1 => ?_) (fun g1 => ?_)
      · repeat (first | exact ih (k + 1) (by omega) hx (skip (.inl (by omega))) | refine hJ _ _ _ _ ?_ | refine And.intro (by omega) (fun _ => ?_) | refine And.intro (by omega) ?_ | refine And.intro (fun _ => ?_) (by omega))
      · repeat (first | refine hJ _ _ _ _ ?_ | refine And.intro (by omega) (fun _ => ?_) | refine And.intro (by omega) ?_ | refine And.intro (fun _ => ?_) (by omega))
        refine And.intro (fun g2 => ?_) (fun g2 => ?_)
        · repeat (first | exact ih (k + 1) (by omega) hx (skip (.inr (.inl (by omega)))) | refine hJ _ _ _ _ ?_ | refine And.intro (by omega) (fun _ => ?_) | refine And.intro (by omega) ?_ | refine And.intro (fun _ => ?_) (by omega))
        · repeat (first | refine hJ _ _ _ _ ?_ | refine And.intro (by omega) (fun _ => ?_) | refine And.intro (by omega) ?_ | refine And.intro (fun _ => ?_) (by omega))
          refine And.intro (fun g3 => ?_) (fun g3 => ?_)
          · repeat (first | exact ih (k + 1) (by omega) hx (skip (.inr (.inr (by omega)))) | refine hJ _ _ _ _ ?_ | refine And.intro (by omega) (fun _ => ?_) | refine And.intro (by omega) ?_ | refine And.intro (fun _ => ?_) (by omega))
          · repeat (first | refine hJ _ _ _ _ ?_ | refine And.intro (by omega) (fun _ => ?_) | refine And.intro (by omega) ?_ | refine And.intro (fun _ => ?_) (by omega))
            refine s_Tr_isInTriangle H hs h7 wa.2.1 wa.2.2.1 wp.2.1 wp.2.2.1 wb.2.1 wb.2.2.1 wk.2.1 wk.2.2.1 (fun g => ?_) (fun g => ?_)
            · rw [wa.2.2.2, wp.2.2.2, wb.2.2.2, wk.2.2.2] at g
              repeat (first | refine hJ _ _ _ _ ?_ | refine And.intro (by omega) (fun _ => ?_) | refine And.intro (by omega) ?_ | refine And.intro (fun _ => ?_) (by omega))
              exact h0 (fun q => q.2 k (by omega) (by omega) (by omega) (by omega) g)
            · rw [wa.2.2.2, wp.2.2.2, wb.2.2.2, wk.2.2.2] at g
              have hall' : ∀ j, j < k + 1 → j ≠ bx L.length i → j ≠ i → j ≠ nx L.length i → ¬ tr_x s (rg (L.getD (bx L.length i) 0)) (rg (L.getD i 0)) (rg (L.getD (nx L.length i) 0)) (rg (L.getD j 0)) := fun j hj j1 j2 j3 => by
                rcases (show j < k ∨ j = k by omega) with q | q
                · exact hall j q j1 j2 j3
                · subst q; exact g
              repeat (first | exact ih (k + 1) (by omega) hx hall' | refine hJ _ _ _ _ ?_ | refine And.intro (by omega) (fun _ => ?_) | refine And.intro (by omega) ?_ | refine And.intro (fun _ => ?_) (by omega))
  repeat (first | refine hJ _ _ _ _ ?_ | refine And.intro (by omega) (fun _ => ?_) | refine And.intro (by omega) ?_ | refine And.intro (fun _ => ?_) (by omega))
  refine s_Tr_before h6 q40 hi ?_
  repeat (first | refine hJ _ _ _ _ ?_ | refine And.intro (by omega) (fun _ => ?_) | refine And.intro (by omega) ?_ | refine And.intro (fun _ => ?_) (by omega))
  refine s_Tr_behind h6 q40 hi ?_
  repeat (first | refine hJ _ _ _ _ ?_ | refine And.intro (by omega) (fun _ => ?_) | refine And.intro (by omega) ?_ | refine And.intro (fun _ => ?_) (by omega))
  refine s_Tr_turnInwards H hs h7 wa.2.1 wa.2.2.1 wp.2.1 wp.2.2.1 wb.2.1 wb.2.2.1 ?_
  rw [wa.2.2.2, wp.2.2.2, wb.2.2.2]
  repeat (first | refine hJ _ _ _ _ ?_ | refine And.intro (by omega) (fun _ => ?_) | refine And.intro (by omega) ?_ | refine And.intro (fun _ => ?_) (by omega))
  refine And.intro (fun g => ?_) (fun g => ?_)
  · repeat (first | exact loop L.length 0 (by omega) g (fun j hj => absurd hj (Nat.not_lt_zero _)) | refine hJ _ _ _ _ ?_ | refine And.intro (by omega) (fun _ => ?_) | refine And.intro (by omega) ?_ | refine And.intro (fun _ => ?_) (by omega))
  · repeat (first | refine hJ _ _ _ _ ?_ | refine And.intro (by omega) (fun _ => ?_) | refine And.intro (by omega) ?_ | refine And.intro (fun _ => ?_) (by omega))
    exact h0 (fun q => absurd q.1 (Int.not_lt.mpr g))
set_option maxRecDepth 20000 in
set_option maxHeartbeats 2000000 in
theorem s_Tr_firstEar {E : AE} {l : Launch} {h : AH} (H : pd_ok h) {m : Nat} {rg : Nat → ge_P} (K : rk h m rg) {s : Int} (hs : s = 1 ∨ s = -1) (h7 : h 21 7 = s) {L : List Nat} (G : lk h m L) {i : Nat} (hi : tr_1 rg s L i) {Q : AR} (hQ : Q (some (.inl (i : Int))) h) : am_g E l 81 [.inr (.inr 21)] h Q := by
  have h6 := G.1
  have q40 := G.2.1
  have hil := hi.1
  have el : h 21 6 - 1 = ((L.length - 1 : Nat) : Int) := by omega
  refine am_met T_Tr_firstEar (by decide) (Nat.le_of_ble_eq_true rfl) (fun J hJ => ?_)
  have loop : ∀ d k : Nat, k + d + 1 = L.length → k ≤ i → J 9 [some (.inr (.inr 21)), some (.inl ((L.length - 1 : Nat) : Int)), some (.inl (k : Int))] [] h := by
    intro d
    induction d with
    | zero =>
      intro k hk hki
      have ei : ((L.length - 1 : Nat) : Int) = (i : Int) := by omega
      repeat (first | refine hJ _ _ _ _ ?_ | refine And.intro (by omega) (fun _ => ?_) | refine And.intro (by omega) ?_ | refine And.intro (fun _ => ?_) (by omega))
      rw [ei]
      exact hQ
    | succ d ih =>
      intro k hk hki
      repeat (first | refine hJ _ _ _ _ ?_ | refine And.intro (by omega) (fun _ => ?_) | refine And.intro (by omega) ?_ | refine And.intro (fun _ => ?_) (by omega))
      refine s_Tr_isEar H K hs h7 G (by omega) (fun g => ?_) (fun g => ?_)
      · have ei : k = i := by
          rcases (show k < i ∨ k = i by omega) with q | q
          · exact absurd g (hi.2.2 k q)
          · exact q
        repeat (first | refine hJ _ _ _ _ ?_ | refine And.intro (by omega) (fun _ => ?_) | refine And.intro (by omega) ?_ | refine And.intro (fun _ => ?_) (by omega))
        rw [ei]
        exact hQ
      · have ni : k ≠ i := fun q => g (by rw [q]; exact hi.2.1)
        repeat (first | exact ih (k + 1) (by omega) (by omega) | refine hJ _ _ _ _ ?_ | refine And.intro (by omega) (fun _ => ?_) | refine And.intro (by omega) ?_ | refine And.intro (fun _ => ?_) (by omega))
  have this := loop (L.length - 1) 0 (by omega) (by omega)
  rw [← el] at this
  repeat (first | exact this | refine hJ _ _ _ _ ?_ | refine And.intro (by omega) (fun _ => ?_) | refine And.intro (by omega) ?_ | refine And.intro (fun _ => ?_) (by omega))
set_option maxRecDepth 20000 in
set_option maxHeartbeats 2000000 in
theorem s_Tr_keep {E : AE} {l : Launch} {h : AH} {z : Nat} (hz : h 21 3 = (z : Int)) (z40 : z < 40) {a p b : Int} {Q : AR} (hQ : Q none (am_up (am_up h 22 z (4096 * a + 64 * p + b)) 21 3 ((z : Int) + 1))) : am_g E l 82 [.inr (.inr 21), .inl a, .inl p, .inl b] h Q := by
  have et : (h 21 3).toNat = z := by omega
  have e2 : am_up h 22 (h 21 3).toNat (4096 * a + 64 * p + b) 21 3 = (z : Int) := hz
  refine am_met T_Tr_keep (by decide) (Nat.le_of_ble_eq_true rfl) (fun J hJ => ?_)
  repeat (first | refine hJ _ _ _ _ ?_ | refine And.intro (by omega) (fun _ => ?_) | refine And.intro (by omega) ?_ | refine And.intro (fun _ => ?_) (by omega))
  rw [e2, et]
  exact hQ
set_option maxRecDepth 20000 in
set_option maxHeartbeats 2000000 in
theorem s_Tr_remove {E : AE} {l : Launch} {h : AH} {q : Nat} (hq : h 21 6 = (q : Int)) (q40 : q ≤ 40) {i : Nat} (hi : i < q) {Q : AR} (hQ : ∀ h' : AH, (∀ c, c ≠ 21 → c ≠ 23 → h' c = h c) → (∀ j, j ≠ 6 → h' 21 j = h 21 j) → h' 21 6 = (q : Int) - 1 → (∀ j, j < q - 1 → h' 23 j = if j < i then h 23 j else h 23 (j + 1)) → Q none h') : am_g E l 83 [.inr (.inr 21), .inl (i : Int)] h Q := by
  refine am_met T_Tr_remove (by decide) (Nat.le_of_ble_eq_true rfl) (fun J hJ => ?_)
  have loop : ∀ d k : Nat, ∀ g : AH, k + d + 1 = q → i ≤ k → (∀ c, c ≠ 21 → c ≠ 23 → g c = h c) → (∀ j, j ≠ 6 → g 21 j = h 21 j) → g 21 6 = (q : Int) - 1 → (∀ j, g 23 j = if i ≤ j ∧ j < k then h 23 (j + 1) else h 23 j) → J 12 [some (.inr (.inr 21)), some (.inl (i : Int)), some (.inl (k : Int))] [] g := by
    intro d
    induction d with
    | zero =>
      intro k g hk hik fr f21 f6 f23
      repeat (first | refine hJ _ _ _ _ ?_ | refine And.intro (by omega) (fun _ => ?_) | refine And.intro (by omega) ?_ | refine And.intro (fun _ => ?_) (by omega))
      refine hQ g fr f21 f6 (fun j hj => ?_)
      rw [f23]
      by_cases hji : j < i
      · rw [if_neg (by omega), if_pos hji]
      · rw [if_pos (by omega), if_neg hji]
    | succ d ih =>
      intro k g hk hik fr f21 f6 f23
      repeat (first | refine ih (k + 1) _ (by omega) (by omega) ?_ ?_ ?_ ?_ | refine hJ _ _ _ _ ?_ | refine And.intro (by omega) (fun _ => ?_) | refine And.intro (by omega) ?_ | refine And.intro (fun _ => ?_) (by omega))
      · intro c c1 c2
        rw [am_up_o c2]
        exact fr c c1 c2
      · intro j hj
        rw [am_up_o (by decide)]
        exact f21 j hj
      · rw [am_up_o (by decide)]
        exact f6
      · intro j
        have e1 : g 23 ((k : Int) + 1).toNat = h 23 (k + 1) := by
          have := f23 (k + 1)
          rw [if_neg (by omega)] at this
          exact this
        rw [e1]
        by_cases hjk : j = k
        · subst hjk
          rw [if_pos (by omega)]
          simp [am_up]
        · have e : am_up g 23 (Int.toNat (k : Int)) (h 23 (k + 1)) 23 j = g 23 j := by simp [am_up, hjk]
          rw [e, f23]
          by_cases h9 : i ≤ j ∧ j < k
          · rw [if_pos h9, if_pos (by omega)]
          · rw [if_neg h9, if_neg (by omega)]
  repeat (first | refine loop (q - 1 - i) i _ (by omega) (Nat.le_refl _) ?_ ?_ ?_ ?_ | refine hJ _ _ _ _ ?_ | refine And.intro (by omega) (fun _ => ?_) | refine And.intro (by omega) ?_ | refine And.intro (fun _ => ?_) (by omega))
  · intro c c1 c2
    exact am_up_o c1
  · intro j hj
    simp [am_up, hj]
  · rw [← hq]; simp [am_up]
  · intro j
    rw [if_neg (by omega), am_up_o (by decide)]
theorem er_getD {L : List Nat} {i j : Nat} : (L.eraseIdx i).getD j 0 = if j < i then L.getD j 0 else L.getD (j + 1) 0 := by
  rw [List.getD_eq_getElem?_getD, List.getElem?_eraseIdx, List.getD_eq_getElem?_getD, List.getD_eq_getElem?_getD]
  split <;> rfl
/-- the triangles in the heap -/
def tvr (m : Nat) (rg : Nat → ge_P) (h : AH) : Prop := ∃ (L : List Nat) (T : List Int), tr_w rg (tr_s rg m) m (m - 3) L T ∧ h 21 3 = (m : Int) - 2 ∧ h 21 7 = tr_s rg m ∧ (∀ j, j < m - 3 → h 22 j = T.getD j 0) ∧ h 22 (m - 3) = tr_z L
set_option maxRecDepth 20000 in
set_option maxHeartbeats 2000000 in
theorem s_Tr_cutAll {E : AE} {l : Launch} {h : AH} (H : pd_ok h) {m : Nat} {rg : Nat → ge_P} (K : rk h m rg) (hro : -3200000000000 ≤ ro rg m ∧ ro rg m ≤ 3200000000000) (hr : rs rg m) (hz : h 21 3 = 0) {Q : AR} (hQ : ∀ h' : AH, (∀ c, c ≠ 21 → c ≠ 22 → c ≠ 23 → h' c = h c) → tvr m rg h' → Q none h') : am_g E l 84 [.inr (.inr 21)] h Q := by
  have hm := K.1
  have m40 := K.2.1
  have h3 := hr.1
  have hs := tr_s_v rg m
  refine am_met T_Tr_cutAll (by decide) (Nat.le_of_ble_eq_true rfl) (fun J hJ => ?_)
  -- the cuts
  have cuts : ∀ d k : Nat, ∀ (g : AH) (L : List Nat) (T : List Int) (c : Int) (x : Option AV), c = (d : Int) → k + 3 + d = m → (∀ c, c ≠ 21 → c ≠ 22 → c ≠ 23 → g c = h c) → g 21 3 = (k : Int) → g 21 7 = tr_s rg m → lk g m L → (∀ j, j < k → g 22 j = T.getD j 0) → tr_w rg (tr_s rg m) m k L T → J 65 [some (.inr (.inr 21)), some (.inl c), x] [] g := by
    intro d
    induction d with
    | zero =>
      intro k g L T c x hc hk fr f3 f7 G f22 W
      have hl := tr_w_len k L T W
      have hl3 : L.length = 3 := by omega
      have b0 := G.2.2.2 0 (by omega)
      have b1 := G.2.2.2 1 (by omega)
      have b2 := G.2.2.2 2 (by omega)
      have ek : k = m - 3 := by omega
      repeat (first | refine hJ _ _ _ _ ?_ | refine And.intro (by omega) (fun _ => ?_) | refine And.intro (by omega) ?_ | refine And.intro (fun _ => ?_) (by omega))
      refine s_Tr_keep f3 (by omega) ?_
      repeat (first | refine hJ _ _ _ _ ?_ | refine And.intro (by omega) (fun _ => ?_) | refine And.intro (by omega) ?_ | refine And.intro (fun _ => ?_) (by omega))
      refine hQ _ (fun c c1 c2 c3 => by rw [am_up_o c1, am_up_o c2]; exact fr c c1 c2 c3) ⟨L, T, by rw [← ek]; exact W, ?_, ?_, fun j hj => ?_, ?_⟩
      · have e : am_up (am_up g 22 k (4096 * g 23 (Int.toNat 0) + 64 * g 23 (Int.toNat 1) + g 23 (Int.toNat 2))) 21 3 ((k : Int) + 1) 21 3 = (k : Int) + 1 := by simp [am_up]
        rw [e]; omega
      · rw [← f7]; simp [am_up]
      · rw [am_up_o (by decide), ← f22 j (by omega)]
        have hne : ¬ j = k := by omega
        simp [am_up, hne]
      · rw [am_up_o (by decide), ← ek]
        have e : am_up g 22 k (4096 * g 23 (Int.toNat 0) + 64 * g 23 (Int.toNat 1) + g 23 (Int.toNat 2)) 22 k = 4096 * g 23 0 + 64 * g 23 1 + g 23 2 := by simp [am_up]
        rw [e, b0, b1, b2]
    | succ d ih =>
      intro k g L T c x hc hk fr f3 f7 G f22 W
      have hl := tr_w_len k L T W
      have ok := tr_w_ok hr m40 k L T (by omega) W
      obtain ⟨i, hi⟩ := tr_first hs ok.1
      have hil := hi.1
      have Hg : pd_ok g := pd_ok_cg H (fr 2 (by decide) (by decide) (by decide)) (fr 3 (by decide) (by decide) (by decide))
      have Kg : rk g m rg := rk_cg K (fr 17 (by decide) (by decide) (by decide)) (fr 18 (by decide) (by decide) (by decide)) (fr 2 (by decide) (by decide) (by decide)) (fr 3 (by decide) (by decide) (by decide))
      have h6 := G.1
      have q40 := G.2.1
      have hbx := bx_lt hil
      have hnx := nx_lt hil
      have ba : g 23 (Int.toNat (bx L.length i : Int)) = ((L.getD (bx L.length i) 0 : Nat) : Int) := G.2.2.2 _ hbx
      have bp : g 23 (Int.toNat (i : Int)) = ((L.getD i 0 : Nat) : Int) := G.2.2.2 _ hil
      have bb : g 23 (Int.toNat (nx L.length i : Int)) = ((L.getD (nx L.length i) 0 : Nat) : Int) := G.2.2.2 _ hnx
      subst hc
      repeat (first | refine hJ _ _ _ _ ?_ | refine And.intro (by omega) (fun _ => ?_) | refine And.intro (by omega) ?_ | refine And.intro (fun _ => ?_) (by omega))
      refine s_Tr_firstEar Hg Kg hs f7 G hi ?_
      repeat (first | refine hJ _ _ _ _ ?_ | refine And.intro (by omega) (fun _ => ?_) | refine And.intro (by omega) ?_ | refine And.intro (fun _ => ?_) (by omega))
      refine s_Tr_before h6 q40 hil ?_
      repeat (first | refine hJ _ _ _ _ ?_ | refine And.intro (by omega) (fun _ => ?_) | refine And.intro (by omega) ?_ | refine And.intro (fun _ => ?_) (by omega))
      refine s_Tr_behind h6 q40 hil ?_
      repeat (first | refine hJ _ _ _ _ ?_ | refine And.intro (by omega) (fun _ => ?_) | refine And.intro (by omega) ?_ | refine And.intro (fun _ => ?_) (by omega))
      rw [ba, bp, bb]
      refine s_Tr_keep f3 (by omega) ?_
      generalize hg1 : am_up (am_up g 22 k (4096 * ((L.getD (bx L.length i) 0 : Nat) : Int) + 64 * ((L.getD i 0 : Nat) : Int) + ((L.getD (nx L.length i) 0 : Nat) : Int))) 21 3 ((k : Int) + 1) = g1
      have o1 : ∀ c, c ≠ 21 → c ≠ 22 → g1 c = g c := fun c c1 c2 => by rw [← hg1, am_up_o c1, am_up_o c2]
      have o21 : ∀ j, j ≠ 3 → g1 21 j = g 21 j := fun j hj => by
        rw [← hg1]
        have e : am_up (am_up g 22 k (4096 * ((L.getD (bx L.length i) 0 : Nat) : Int) + 64 * ((L.getD i 0 : Nat) : Int) + ((L.getD (nx L.length i) 0 : Nat) : Int))) 21 3 ((k : Int) + 1) 21 j = g 21 j := by simp [am_up, hj]
        exact e
      have o3 : g1 21 3 = (k : Int) + 1 := by rw [← hg1]; simp [am_up]
      have o22 : ∀ j, j < k → g1 22 j = g 22 j := fun j hj => by
        have hne : ¬ j = k := by omega
        rw [← hg1]; simp [am_up, hne]
      have o22k : g1 22 k = tr_c L i := by rw [← hg1]; simp [am_up]; rfl
      clear hg1
      repeat (first | refine hJ _ _ _ _ ?_ | refine And.intro (by omega) (fun _ => ?_) | refine And.intro (by omega) ?_ | refine And.intro (fun _ => ?_) (by omega))
      refine s_Tr_remove (by rw [o21 6 (by decide)]; exact h6) q40 hil (fun g2 p1 p21 p6 p23 => ?_)
      have W2 : tr_w rg (tr_s rg m) m (k + 1) (L.eraseIdx i) (T ++ [tr_c L i]) := ⟨L, T, i, W, hi, rfl, rfl⟩
      have hle : (L.eraseIdx i).length = L.length - 1 := by rw [List.length_eraseIdx, if_pos hil]
      have G2 : lk g2 m (L.eraseIdx i) := by
        refine ⟨by rw [p6, hle]; omega, by omega, fun a ha => G.2.2.1 a (List.mem_of_mem_eraseIdx ha), fun j hj => ?_⟩
        rw [p23 j (by omega), er_getD]
        by_cases hji : j < i
        · rw [if_pos hji, if_pos hji, o1 23 (by decide) (by decide)]; exact G.2.2.2 j (by omega)
        · rw [if_neg hji, if_neg hji, o1 23 (by decide) (by decide)]; exact G.2.2.2 (j + 1) (by omega)
      have f22' : ∀ j, j < k + 1 → g2 22 j = (T ++ [tr_c L i]).getD j 0 := fun j hj => by
        rw [p1 22 (by decide) (by decide)]
        rcases (show j < k ∨ j = k by omega) with q | q
        · rw [o22 j q, getD_l (by omega)]; exact f22 j q
        · subst q
          have := getD_r T (tr_c L i)
          rw [hl.1] at this
          rw [o22k, this]
      repeat (first | exact ih (k + 1) g2 _ _ _ _ (by omega) (by omega) (fun c c1 c2 c3 => by rw [p1 c c1 c3, o1 c c1 c2, fr c c1 c2 c3]) (by rw [p21 3 (by decide), o3]; rfl) (by rw [p21 7 (by decide), o21 7 (by decide), f7]) G2 f22' W2 | refine hJ _ _ _ _ ?_ | refine And.intro (by omega) (fun _ => ?_) | refine And.intro (by omega) ?_ | refine And.intro (fun _ => ?_) (by omega))
  have fill : ∀ d k : Nat, ∀ g : AH, k + d = m → (∀ c, c ≠ 21 → c ≠ 22 → c ≠ 23 → g c = h c) → g 21 3 = 0 → g 21 7 = tr_s rg m → g 21 6 = (m : Int) → (∀ j, j < k → g 23 j = (j : Int)) → J 34 [some (.inr (.inr 21)), some (.inl (k : Int)), none] [] g := by
    intro d
    induction d with
    | zero =>
      intro k g hk fr f3 f7 f6 f23
      have g17 : g 17 2 = (m : Int) := by rw [fr 17 (by decide) (by decide) (by decide)]; exact hm
      have G : lk g m (List.range m) := by
        refine ⟨by rw [List.length_range]; exact f6, by rw [List.length_range]; exact m40, fun a ha => List.mem_range.mp ha, fun j hj => ?_⟩
        rw [List.length_range] at hj
        rw [f23 j (by omega), List.getD_eq_getElem?_getD, List.getElem?_range hj]
        rfl
      repeat (first | exact cuts (m - 3) 0 g (List.range m) [] _ _ (by omega) (by omega) fr f3 f7 G (fun j hj => absurd hj (Nat.not_lt_zero _)) ⟨rfl, rfl⟩ | refine hJ _ _ _ _ ?_ | refine And.intro (by omega) (fun _ => ?_) | refine And.intro (by omega) ?_ | refine And.intro (fun _ => ?_) (by omega))
    | succ d ih =>
      intro k g hk fr f3 f7 f6 f23
      repeat (first | refine ih (k + 1) _ (by omega) ?_ ?_ ?_ ?_ ?_ | refine hJ _ _ _ _ ?_ | refine And.intro (by omega) (fun _ => ?_) | refine And.intro (by omega) ?_ | refine And.intro (fun _ => ?_) (by omega))
      · intro c c1 c2 c3
        rw [am_up_o c3]
        exact fr c c1 c2 c3
      · rw [am_up_o (by decide)]; exact f3
      · rw [am_up_o (by decide)]; exact f7
      · rw [am_up_o (by decide)]; exact f6
      · intro j hj
        by_cases hjk : j = k
        · subst hjk; simp [am_up]
        · have e : am_up g 23 (Int.toNat (k : Int)) (k : Int) 23 j = g 23 j := by simp [am_up, hjk]
          rw [e]; exact f23 j (by omega)
  have begin_ : ∀ v : Int, v = tr_s rg m → J 18 [some (.inr (.inr 21)), none, none] [.inl v, .inr (.inr 21)] h := by
    intro v hv
    have e17 : am_up h 21 7 v 17 2 = (m : Int) := hm
    repeat (first | refine fill m 0 _ (by omega) ?_ ?_ ?_ ?_ ?_ | refine hJ _ _ _ _ ?_ | refine And.intro (by omega) (fun _ => ?_) | refine And.intro (by omega) ?_ | refine And.intro (fun _ => ?_) (by omega))
    · intro c c1 c2 c3
      rw [am_up_o c1, am_up_o c1]
    · rw [← hz]; simp [am_up]
    · rw [← hv]; simp [am_up]
    · rw [← e17]; simp [am_up]
    · intro j hj; exact absurd hj (Nat.not_lt_zero _)
  repeat (first | refine hJ _ _ _ _ ?_ | refine And.intro (by omega) (fun _ => ?_) | refine And.intro (by omega) ?_ | refine And.intro (fun _ => ?_) (by omega))
  refine s_Ro_sumRound H K ?_
  rw [if_neg (show ¬ m < 3 by omega)]
  repeat (first | refine hJ _ _ _ _ ?_ | refine And.intro (by omega) (fun _ => ?_) | refine And.intro (by omega) ?_ | refine And.intro (fun _ => ?_) (by omega))
  refine And.intro (fun g => ?_) (fun g => ?_)
  · repeat (first | exact begin_ (-1) (by unfold tr_s; rw [if_neg (by omega)]) | refine hJ _ _ _ _ ?_ | refine And.intro (by omega) (fun _ => ?_) | refine And.intro (by omega) ?_ | refine And.intro (fun _ => ?_) (by omega))
  · repeat (first | exact begin_ 1 (by unfold tr_s; rw [if_pos (by omega)]) | refine hJ _ _ _ _ ?_ | refine And.intro (by omega) (fun _ => ?_) | refine And.intro (by omega) ?_ | refine And.intro (fun _ => ?_) (by omega))
set_option maxRecDepth 20000 in
set_option maxHeartbeats 2000000 in
theorem s_Tr_refresh {E : AE} {l : Launch} {h : AH} (H : pd_ok h) {m : Nat} {rg : Nat → ge_P} (K : rk h m rg) (hro : -3200000000000 ≤ ro rg m ∧ ro rg m ≤ 3200000000000) (v1 : 0 ≤ h 21 4) (v2 : h 21 4 < 2147483648) (v3 : 0 ≤ h 17 3) (v4 : h 17 3 < 2147483648) {b : Int} (hb : (rs rg m ∧ b = 1) ∨ (¬ rs rg m ∧ b = 0)) {Q : AR} (hsame : h 21 4 = h 17 3 → Q none h) (hnew : ¬ h 21 4 = h 17 3 → ∀ h' : AH, (∀ c, c ≠ 21 → c ≠ 22 → c ≠ 23 → h' c = h c) → h' 21 4 = h 17 3 → tv m rg h' → Q none h') : am_g E l 85 [.inr (.inr 21), .inl b] h Q := by
  refine am_met T_Tr_refresh (by decide) (Nat.le_of_ble_eq_true rfl) (fun J hJ => ?_)
  repeat (first | refine hJ _ _ _ _ ?_ | refine And.intro (by omega) (fun _ => ?_) | refine And.intro (by omega) ?_ | refine And.intro (fun _ => ?_) (by omega))
  refine And.intro (fun hv => ?_) (fun hv => ?_)
  · rcases hb with ⟨hr, rfl⟩ | ⟨hr, rfl⟩
    · repeat (first | refine hJ _ _ _ _ ?_ | refine And.intro (by omega) (fun _ => ?_) | refine And.intro (by omega) ?_ | refine And.intro (fun _ => ?_) (by omega))
      have H1 : pd_ok (am_up h 21 3 0) := pd_ok_cg H (am_up_o (by decide)) (am_up_o (by decide))
      have K1 : rk (am_up h 21 3 0) m rg := rk_cg K (am_up_o (by decide)) (am_up_o (by decide)) (am_up_o (by decide)) (am_up_o (by decide))
      have z1 : am_up h 21 3 0 21 3 = 0 := by simp [am_up]
      refine s_Tr_cutAll H1 K1 hro hr z1 (fun g fr V => ?_)
      obtain ⟨L, T, W, e3, e7, e22, e22z⟩ := V
      have g17 : g 17 3 = h 17 3 := by rw [fr 17 (by decide) (by decide) (by decide), am_up_o (by decide)]
      repeat (first | refine hJ _ _ _ _ ?_ | refine And.intro (by omega) (fun _ => ?_) | refine And.intro (by omega) ?_ | refine And.intro (fun _ => ?_) (by omega))
      refine hnew hv _ (fun c c1 c2 c3 => ?_) ?_ ⟨fun q => absurd hr q, fun _ => ⟨L, T, W, ?_, ?_, fun j hj => ?_, ?_⟩⟩
      · rw [am_up_o c1, fr c c1 c2 c3, am_up_o c1]
      · rw [← g17]; simp [am_up]
      · rw [← e3]; simp [am_up]
      · rw [← e7]; simp [am_up]
      · rw [am_up_o (by decide)]; exact e22 j hj
      · rw [am_up_o (by decide)]; exact e22z
    · repeat (first | refine hJ _ _ _ _ ?_ | refine And.intro (by omega) (fun _ => ?_) | refine And.intro (by omega) ?_ | refine And.intro (fun _ => ?_) (by omega))
      refine hnew hv _ (fun c c1 c2 c3 => ?_) ?_ ⟨fun _ => ?_, fun q => absurd q hr⟩
      · rw [am_up_o c1, am_up_o c1]
      · simp [am_up]
      · simp [am_up]
  · repeat (first | refine hJ _ _ _ _ ?_ | refine And.intro (by omega) (fun _ => ?_) | refine And.intro (by omega) ?_ | refine And.intro (fun _ => ?_) (by omega))
    exact hsame hv
