/-! the class: hulls, on -/
/-- the first places of a cell written anew -/
def aw (h : AH) (c : Nat) (f : Nat → Int) (k : Nat) : AH := fun q j => if q = c ∧ j < k then f j else h q j
theorem aw_0 (h : AH) (c : Nat) (f : Nat → Int) : aw h c f 0 = h := by
  funext q j
  simp [aw]
theorem aw_s (h : AH) (c : Nat) (f : Nat → Int) (k : Nat) : am_up (aw h c f k) c k (f k) = aw h c f (k + 1) := by
  funext q j
  simp only [am_up, aw]
  grind
theorem aw_e (h : AH) (c : Nat) (f : Nat → Int) (k : Nat) (e : f k = h c k) : aw h c f (k + 1) = aw h c f k := by
  funext q j
  simp only [aw]
  grind
theorem aw_o {h : AH} {c q : Nat} {f : Nat → Int} {k : Nat} (hq : q ≠ c) : aw h c f k q = h q := by
  funext j
  simp [aw, hq]
theorem aw_i {h : AH} {c : Nat} {f : Nat → Int} {k j : Nat} (hj : j < k) : aw h c f k c j = f j := by simp [aw, hj]
theorem am_up_o {h : AH} {c q i : Nat} {v : Int} (hq : q ≠ c) : am_up h c i v q = h q := by
  funext j
  simp [am_up, hq]
set_option maxRecDepth 20000 in
set_option maxHeartbeats 2000000 in
theorem s_Hu_takeAllIn {E : AE} {l : Launch} {h : AH} {c : Nat} (hc : c = 4 ∨ c = 14) {Q : AR} (hQ : Q none (aw h (c + 1) (fun _ => 0) 60)) : am_g E l 6 [.inr (.inr c)] h Q := by
  rcases hc with rfl | rfl
  · refine am_met T_Hu_takeAllIn (by decide) (Nat.le_of_ble_eq_true rfl) (fun J hJ => ?_)
    have loop : ∀ d p : Nat, p + d = 60 → J 2 [some (.inr (.inr 4)), some (.inl (p : Int))] [] (aw h 5 (fun _ => 0) p) := by
      intro d
      induction d with
      | zero =>
        intro p hp
        have : p = 60 := by omega
        subst this
        repeat (first | refine hJ _ _ _ _ ?_ | refine And.intro (by omega) (fun _ => ?_) | refine And.intro (by omega) ?_ | refine And.intro (fun _ => ?_) (by omega))
        exact hQ
      | succ d ih =>
        intro p hp
        have this := ih (p + 1) (by omega)
        rw [← aw_s] at this
        repeat (first | exact this | refine hJ _ _ _ _ ?_ | refine And.intro (by omega) (fun _ => ?_) | refine And.intro (by omega) ?_ | refine And.intro (fun _ => ?_) (by omega))
    have this := loop 60 0 (by omega)
    rw [aw_0] at this
    repeat (first | exact this | refine hJ _ _ _ _ ?_ | refine And.intro (by omega) (fun _ => ?_) | refine And.intro (by omega) ?_ | refine And.intro (fun _ => ?_) (by omega))
  · refine am_met T_Hu_takeAllIn (by decide) (Nat.le_of_ble_eq_true rfl) (fun J hJ => ?_)
    have loop : ∀ d p : Nat, p + d = 60 → J 2 [some (.inr (.inr 14)), some (.inl (p : Int))] [] (aw h 15 (fun _ => 0) p) := by
      intro d
      induction d with
      | zero =>
        intro p hp
        have : p = 60 := by omega
        subst this
        repeat (first | refine hJ _ _ _ _ ?_ | refine And.intro (by omega) (fun _ => ?_) | refine And.intro (by omega) ?_ | refine And.intro (fun _ => ?_) (by omega))
        exact hQ
      | succ d ih =>
        intro p hp
        have this := ih (p + 1) (by omega)
        rw [← aw_s] at this
        repeat (first | exact this | refine hJ _ _ _ _ ?_ | refine And.intro (by omega) (fun _ => ?_) | refine And.intro (by omega) ?_ | refine And.intro (fun _ => ?_) (by omega))
    have this := loop 60 0 (by omega)
    rw [aw_0] at this
    repeat (first | exact this | refine hJ _ _ _ _ ?_ | refine And.intro (by omega) (fun _ => ?_) | refine And.intro (by omega) ?_ | refine And.intro (fun _ => ?_) (by omega))
set_option maxRecDepth 20000 in
set_option maxHeartbeats 2000000 in
theorem s_Hu_leaveOut {E : AE} {l : Launch} {h : AH} {c : Nat} (hc : c = 4 ∨ c = 14) {i : Int} (i1 : 0 ≤ i) (i2 : i < 60) {Q : AR} (hQ : Q none (am_up h (c + 1) i.toNat 1)) : am_g E l 21 [.inr (.inr c), .inl i] h Q := by
  rcases hc with rfl | rfl
  · refine am_met T_Hu_leaveOut (by decide) (Nat.le_of_ble_eq_true rfl) (fun J hJ => ?_)
    repeat (first | refine hJ _ _ _ _ ?_ | refine And.intro (by omega) (fun _ => ?_) | refine And.intro (by omega) ?_ | refine And.intro (fun _ => ?_) (by omega))
    exact hQ
  · refine am_met T_Hu_leaveOut (by decide) (Nat.le_of_ble_eq_true rfl) (fun J hJ => ?_)
    repeat (first | refine hJ _ _ _ _ ?_ | refine And.intro (by omega) (fun _ => ?_) | refine And.intro (by omega) ?_ | refine And.intro (fun _ => ?_) (by omega))
    exact hQ
set_option maxRecDepth 20000 in
set_option maxHeartbeats 2000000 in
theorem s_Hu_cornerAfter {E : AE} {l : Launch} {h : AH} {c : Nat} (hc : c = 4 ∨ c = 14) {m : Nat} (hm : h c 3 = (m : Int)) (m60 : m ≤ 60) {i : Nat} (hi : i < m) {Q : AR} (hQ : Q (some (.inl (h (c + 2) (nx m i)))) h) : am_g E l 19 [.inr (.inr c), .inl (i : Int)] h Q := by
  rcases hc with rfl | rfl
  · refine am_met T_Hu_cornerAfter (by decide) (Nat.le_of_ble_eq_true rfl) (fun J hJ => ?_)
    by_cases hx : i + 1 < m
    · rw [show nx m i = i + 1 from if_pos hx] at hQ
      repeat (first | refine hJ _ _ _ _ ?_ | refine And.intro (by omega) (fun _ => ?_) | refine And.intro (by omega) ?_ | refine And.intro (fun _ => ?_) (by omega))
      exact hQ
    · rw [show nx m i = 0 from if_neg hx] at hQ
      repeat (first | refine hJ _ _ _ _ ?_ | refine And.intro (by omega) (fun _ => ?_) | refine And.intro (by omega) ?_ | refine And.intro (fun _ => ?_) (by omega))
      exact hQ
  · refine am_met T_Hu_cornerAfter (by decide) (Nat.le_of_ble_eq_true rfl) (fun J hJ => ?_)
    by_cases hx : i + 1 < m
    · rw [show nx m i = i + 1 from if_pos hx] at hQ
      repeat (first | refine hJ _ _ _ _ ?_ | refine And.intro (by omega) (fun _ => ?_) | refine And.intro (by omega) ?_ | refine And.intro (fun _ => ?_) (by omega))
      exact hQ
    · rw [show nx m i = 0 from if_neg hx] at hQ
      repeat (first | refine hJ _ _ _ _ ?_ | refine And.intro (by omega) (fun _ => ?_) | refine And.intro (by omega) ?_ | refine And.intro (fun _ => ?_) (by omega))
      exact hQ
/-- a hull's corners in the heap -/
def hk (h : AH) (c m : Nat) (cp : Nat → ge_P) : Prop := h c 3 = (m : Int) ∧ m ≤ 60 ∧ ∀ j : Nat, j < m → 0 ≤ h (c + 2) j ∧ h (c + 2) j < 60 ∧ pd_p h (h (c + 2) j) = cp j
set_option maxRecDepth 20000 in
set_option maxHeartbeats 2000000 in
theorem s_Hu_holds {E : AE} {l : Launch} {h : AH} {c : Nat} (hc : c = 4 ∨ c = 14) (H : pd_ok h) {m : Nat} {cp : Nat → ge_P} (K : hk h c m cp) {p : Int} (p1 : 0 ≤ p) (p2 : p < 61) {Q : AR} (hQ : Q (some (.inl (hu_at cp m (pd_p h p)))) h) : am_g E l 20 [.inr (.inr c), .inl p] h Q := by
  have m60 := K.2.1
  have hq3 : 3 ≤ m → hu_at cp m (pd_p h p) = hu_in cp m (pd_p h p) m := fun g => by
    unfold hu_at
    rw [if_neg (by omega), if_neg (by omega)]
  rcases hc with rfl | rfl
  · have hm : h 4 3 = (m : Int) := K.1
    have hw : ∀ j : Nat, j < m → 0 ≤ h 6 j ∧ h 6 j < 60 ∧ pd_p h (h 6 j) = cp j := K.2.2
    refine am_met T_Hu_holds (by decide) (Nat.le_of_ble_eq_true rfl) (fun J hJ => ?_)
    have loop : ∀ d k : Nat, ∀ (acc : Int) (x y : Option AV), 3 ≤ m → k + d = m → 0 ≤ acc → acc = hu_in cp m (pd_p h p) k → J 55 [some (.inr (.inr 4)), some (.inl p), some (.inl acc), some (.inl (k : Int)), x, y] [] h := by
      intro d
      induction d with
      | zero =>
        intro k acc x y h3 hk ha0 ha
        have : k = m := by omega
        subst this
        repeat (first | refine hJ _ _ _ _ ?_ | refine And.intro (by omega) (fun _ => ?_) | refine And.intro (by omega) ?_ | refine And.intro (fun _ => ?_) (by omega))
        rw [hq3 h3, ← ha] at hQ
        exact hQ
      | succ d ih =>
        intro k acc x y h3 hk ha0 ha
        have wk : 0 ≤ h 6 (Int.toNat (k : Int)) ∧ h 6 (Int.toNat (k : Int)) < 60 ∧ pd_p h (h 6 (Int.toNat (k : Int))) = cp k := hw k (by omega)
        have wn := hw (nx m k) (nx_lt (by omega))
        have hb := pd_x_b H wk.1 (Int.lt_trans wk.2.1 (by decide)) wn.1 (Int.lt_trans wn.2.1 (by decide)) p1 p2
        rw [wk.2.2, wn.2.2] at hb
        repeat (first | refine hJ _ _ _ _ ?_ | refine And.intro (by omega) (fun _ => ?_) | refine And.intro (by omega) ?_ | refine And.intro (fun _ => ?_) (by omega))
        refine s_Hu_cornerAfter (.inl rfl) hm m60 (by omega) ?_
        repeat (first | refine hJ _ _ _ _ ?_ | refine And.intro (by omega) (fun _ => ?_) | refine And.intro (by omega) ?_ | refine And.intro (fun _ => ?_) (by omega))
        refine s_Po_crossProduct H wk.1 (Int.lt_trans wk.2.1 (by decide)) wn.1 (Int.lt_trans wn.2.1 (by decide)) p1 p2 ?_
        rw [wk.2.2, wn.2.2]
        repeat (first | refine hJ _ _ _ _ ?_ | refine And.intro (by omega) (fun _ => ?_) | refine And.intro (by omega) ?_ | refine And.intro (fun _ => ?_) (by omega))
        refine And.intro (fun hv => ?_) (fun hv => ?_)
        · repeat (first | refine hJ _ _ _ _ ?_ | refine And.intro (by omega) (fun _ => ?_) | refine And.intro (by omega) ?_ | refine And.intro (fun _ => ?_) (by omega))
          refine And.intro (fun hz => ?_) (fun hz => ?_)
          · repeat (first | exact ih (k + 1) _ _ _ h3 (by omega) ha0 (by rw [hu_in_p (by omega)]; exact ha) | refine hJ _ _ _ _ ?_ | refine And.intro (by omega) (fun _ => ?_) | refine And.intro (by omega) ?_ | refine And.intro (fun _ => ?_) (by omega))
          · repeat (first | exact ih (k + 1) _ _ _ h3 (by omega) (Int.le_refl _) (by rw [hu_in_0 hz (by omega)]) | refine hJ _ _ _ _ ?_ | refine And.intro (by omega) (fun _ => ?_) | refine And.intro (by omega) ?_ | refine And.intro (fun _ => ?_) (by omega))
        · repeat (first | refine hJ _ _ _ _ ?_ | refine And.intro (by omega) (fun _ => ?_) | refine And.intro (by omega) ?_ | refine And.intro (fun _ => ?_) (by omega))
          have e1 := hu_in_stay (hu_in_n hv) (m - (k + 1))
          rw [show k + 1 + (m - (k + 1)) = m by omega] at e1
          rw [hq3 h3, e1] at hQ
          exact hQ
    repeat (first | refine hJ _ _ _ _ ?_ | refine And.intro (by omega) (fun _ => ?_) | refine And.intro (by omega) ?_ | refine And.intro (fun _ => ?_) (by omega))
    refine And.intro (fun hz => ?_) (fun hz => ?_)
    · repeat (first | refine hJ _ _ _ _ ?_ | refine And.intro (by omega) (fun _ => ?_) | refine And.intro (by omega) ?_ | refine And.intro (fun _ => ?_) (by omega))
      refine And.intro (fun h3 => ?_) (fun h3 => ?_)
      · repeat (first | exact loop m 0 _ _ _ (by omega) (by omega) (by decide) rfl | refine hJ _ _ _ _ ?_ | refine And.intro (by omega) (fun _ => ?_) | refine And.intro (by omega) ?_ | refine And.intro (fun _ => ?_) (by omega))
      · have w0 : 0 ≤ h 6 (Int.toNat 0) ∧ h 6 (Int.toNat 0) < 60 ∧ pd_p h (h 6 (Int.toNat 0)) = cp 0 := hw 0 (by omega)
        have ei : (h 4 3 - 1).toNat = m - 1 := by omega
        have w1 := hw (m - 1) (by omega)
        rw [← ei] at w1
        repeat (first | refine hJ _ _ _ _ ?_ | refine And.intro (by omega) (fun _ => ?_) | refine And.intro (by omega) ?_ | refine And.intro (fun _ => ?_) (by omega))
        refine s_Po_isOnSegment H w0.1 (Int.lt_trans w0.2.1 (by decide)) w1.1 (Int.lt_trans w1.2.1 (by decide)) p1 p2 (fun g => ?_) (fun g => ?_)
        · rw [w0.2.2, w1.2.2, ei] at g
          repeat (first | refine hJ _ _ _ _ ?_ | refine And.intro (by omega) (fun _ => ?_) | refine And.intro (by omega) ?_ | refine And.intro (fun _ => ?_) (by omega))
          have e : hu_at cp m (pd_p h p) = 0 := by
            unfold hu_at
            rw [if_neg (by omega), if_pos (by omega), if_pos g]
          rw [e] at hQ
          exact hQ
        · rw [w0.2.2, w1.2.2, ei] at g
          repeat (first | refine hJ _ _ _ _ ?_ | refine And.intro (by omega) (fun _ => ?_) | refine And.intro (by omega) ?_ | refine And.intro (fun _ => ?_) (by omega))
          have e : hu_at cp m (pd_p h p) = -1 := by
            unfold hu_at
            rw [if_neg (by omega), if_pos (by omega), if_neg g]
          rw [e] at hQ
          exact hQ
    · repeat (first | refine hJ _ _ _ _ ?_ | refine And.intro (by omega) (fun _ => ?_) | refine And.intro (by omega) ?_ | refine And.intro (fun _ => ?_) (by omega))
      have e : hu_at cp m (pd_p h p) = -1 := by
        unfold hu_at
        rw [if_pos (by omega)]
      rw [e] at hQ
      exact hQ
  · have hm : h 14 3 = (m : Int) := K.1
    have hw : ∀ j : Nat, j < m → 0 ≤ h 16 j ∧ h 16 j < 60 ∧ pd_p h (h 16 j) = cp j := K.2.2
    refine am_met T_Hu_holds (by decide) (Nat.le_of_ble_eq_true rfl) (fun J hJ => ?_)
    have loop : ∀ d k : Nat, ∀ (acc : Int) (x y : Option AV), 3 ≤ m → k + d = m → 0 ≤ acc → acc = hu_in cp m (pd_p h p) k → J 55 [some (.inr (.inr 14)), some (.inl p), some (.inl acc), some (.inl (k : Int)), x, y] [] h := by
      intro d
      induction d with
      | zero =>
        intro k acc x y h3 hk ha0 ha
        have : k = m := by omega
        subst this
        repeat (first | refine hJ _ _ _ _ ?_ | refine And.intro (by omega) (fun _ => ?_) | refine And.intro (by omega) ?_ | refine And.intro (fun _ => ?_) (by omega))
        rw [hq3 h3, ← ha] at hQ
        exact hQ
      | succ d ih =>
        intro k acc x y h3 hk ha0 ha
        have wk : 0 ≤ h 16 (Int.toNat (k : Int)) ∧ h 16 (Int.toNat (k : Int)) < 60 ∧ pd_p h (h 16 (Int.toNat (k : Int))) = cp k := hw k (by omega)
        have wn := hw (nx m k) (nx_lt (by omega))
        have hb := pd_x_b H wk.1 (Int.lt_trans wk.2.1 (by decide)) wn.1 (Int.lt_trans wn.2.1 (by decide)) p1 p2
        rw [wk.2.2, wn.2.2] at hb
        repeat (first | refine hJ _ _ _ _ ?_ | refine And.intro (by omega) (fun _ => ?_) | refine And.intro (by omega) ?_ | refine And.intro (fun _ => ?_) (by omega))
        refine s_Hu_cornerAfter (.inr rfl) hm m60 (by omega) ?_
        repeat (first | refine hJ _ _ _ _ ?_ | refine And.intro (by omega) (fun _ => ?_) | refine And.intro (by omega) ?_ | refine And.intro (fun _ => ?_) (by omega))
        refine s_Po_crossProduct H wk.1 (Int.lt_trans wk.2.1 (by decide)) wn.1 (Int.lt_trans wn.2.1 (by decide)) p1 p2 ?_
        rw [wk.2.2, wn.2.2]
        repeat (first | refine hJ _ _ _ _ ?_ | refine And.intro (by omega) (fun _ => ?_) | refine And.intro (by omega) ?_ | refine And.intro (fun _ => ?_) (by omega))
        refine And.intro (fun hv => ?_) (fun hv => ?_)
        · repeat (first | refine hJ _ _ _ _ ?_ | refine And.intro (by omega) (fun _ => ?_) | refine And.intro (by omega) ?_ | refine And.intro (fun _ => ?_) (by omega))
          refine And.intro (fun hz => ?_) (fun hz => ?_)
          · repeat (first | exact ih (k + 1) _ _ _ h3 (by omega) ha0 (by rw [hu_in_p (by omega)]; exact ha) | refine hJ _ _ _ _ ?_ | refine And.intro (by omega) (fun _ => ?_) | refine And.intro (by omega) ?_ | refine And.intro (fun _ => ?_) (by omega))
          · repeat (first | exact ih (k + 1) _ _ _ h3 (by omega) (Int.le_refl _) (by rw [hu_in_0 hz (by omega)]) | refine hJ _ _ _ _ ?_ | refine And.intro (by omega) (fun _ => ?_) | refine And.intro (by omega) ?_ | refine And.intro (fun _ => ?_) (by omega))
        · repeat (first | refine hJ _ _ _ _ ?_ | refine And.intro (by omega) (fun _ => ?_) | refine And.intro (by omega) ?_ | refine And.intro (fun _ => ?_) (by omega))
          have e1 := hu_in_stay (hu_in_n hv) (m - (k + 1))
          rw [show k + 1 + (m - (k + 1)) = m by omega] at e1
          rw [hq3 h3, e1] at hQ
          exact hQ
    repeat (first | refine hJ _ _ _ _ ?_ | refine And.intro (by omega) (fun _ => ?_) | refine And.intro (by omega) ?_ | refine And.intro (fun _ => ?_) (by omega))
    refine And.intro (fun hz => ?_) (fun hz => ?_)
    · repeat (first | refine hJ _ _ _ _ ?_ | refine And.intro (by omega) (fun _ => ?_) | refine And.intro (by omega) ?_ | refine And.intro (fun _ => ?_) (by omega))
      refine And.intro (fun h3 => ?_) (fun h3 => ?_)
      · repeat (first | exact loop m 0 _ _ _ (by omega) (by omega) (by decide) rfl | refine hJ _ _ _ _ ?_ | refine And.intro (by omega) (fun _ => ?_) | refine And.intro (by omega) ?_ | refine And.intro (fun _ => ?_) (by omega))
      · have w0 : 0 ≤ h 16 (Int.toNat 0) ∧ h 16 (Int.toNat 0) < 60 ∧ pd_p h (h 16 (Int.toNat 0)) = cp 0 := hw 0 (by omega)
        have ei : (h 14 3 - 1).toNat = m - 1 := by omega
        have w1 := hw (m - 1) (by omega)
        rw [← ei] at w1
        repeat (first | refine hJ _ _ _ _ ?_ | refine And.intro (by omega) (fun _ => ?_) | refine And.intro (by omega) ?_ | refine And.intro (fun _ => ?_) (by omega))
        refine s_Po_isOnSegment H w0.1 (Int.lt_trans w0.2.1 (by decide)) w1.1 (Int.lt_trans w1.2.1 (by decide)) p1 p2 (fun g => ?_) (fun g => ?_)
        · rw [w0.2.2, w1.2.2, ei] at g
          repeat (first | refine hJ _ _ _ _ ?_ | refine And.intro (by omega) (fun _ => ?_) | refine And.intro (by omega) ?_ | refine And.intro (fun _ => ?_) (by omega))
          have e : hu_at cp m (pd_p h p) = 0 := by
            unfold hu_at
            rw [if_neg (by omega), if_pos (by omega), if_pos g]
          rw [e] at hQ
          exact hQ
        · rw [w0.2.2, w1.2.2, ei] at g
          repeat (first | refine hJ _ _ _ _ ?_ | refine And.intro (by omega) (fun _ => ?_) | refine And.intro (by omega) ?_ | refine And.intro (fun _ => ?_) (by omega))
          have e : hu_at cp m (pd_p h p) = -1 := by
            unfold hu_at
            rw [if_neg (by omega), if_pos (by omega), if_neg g]
          rw [e] at hQ
          exact hQ
    · repeat (first | refine hJ _ _ _ _ ?_ | refine And.intro (by omega) (fun _ => ?_) | refine And.intro (by omega) ?_ | refine And.intro (fun _ => ?_) (by omega))
      have e : hu_at cp m (pd_p h p) = -1 := by
        unfold hu_at
        rw [if_pos (by omega)]
      rw [e] at hQ
      exact hQ
set_option maxRecDepth 20000 in
set_option maxHeartbeats 2000000 in
theorem s_Hu_twiceArea {E : AE} {l : Launch} {h : AH} (H : pd_ok h) {m : Nat} {cp : Nat → ge_P} (K : hk h 4 m cp) {Q : AR} (hQ : Q (some (.inr (.inl (su (fun i => ge_x (cp 0) (cp (i - 1)) (cp i)) 2 m)))) h) : am_g E l 31 [.inr (.inr 4)] h Q := by
  have m60 := K.2.1
  have hm : h 4 3 = (m : Int) := K.1
  have hw : ∀ j : Nat, j < m → 0 ≤ h 6 j ∧ h 6 j < 60 ∧ pd_p h (h 6 j) = cp j := K.2.2
  refine am_met T_Hu_twiceArea (by decide) (Nat.le_of_ble_eq_true rfl) (fun J hJ => ?_)
  have loop : ∀ d k : Nat, ∀ (acc : Int), 2 ≤ k → k + d = m → acc = su (fun i => ge_x (cp 0) (cp (i - 1)) (cp i)) 2 k → J 4 [some (.inr (.inr 4)), some (.inr (.inl acc)), none, some (.inl (k : Int))] [] h := by
    intro d
    induction d with
    | zero =>
      intro k acc h2 hk ha
      have : k = m := by omega
      subst this
      repeat (first | refine hJ _ _ _ _ ?_ | refine And.intro (by omega) (fun _ => ?_) | refine And.intro (by omega) ?_ | refine And.intro (fun _ => ?_) (by omega))
      rw [← ha] at hQ
      exact hQ
    | succ d ih =>
      intro k acc h2 hk ha
      have w0 : 0 ≤ h 6 (Int.toNat 0) ∧ h 6 (Int.toNat 0) < 60 ∧ pd_p h (h 6 (Int.toNat 0)) = cp 0 := hw 0 (by omega)
      have ei : ((k : Int) - 1).toNat = k - 1 := by omega
      have w1 := hw (k - 1) (by omega)
      rw [← ei] at w1
      rw [ei] at w1
      have w1' : 0 ≤ h 6 ((k : Int) - 1).toNat ∧ h 6 ((k : Int) - 1).toNat < 60 ∧ pd_p h (h 6 ((k : Int) - 1).toNat) = cp (k - 1) := by rw [ei]; exact w1
      have wk : 0 ≤ h 6 (Int.toNat (k : Int)) ∧ h 6 (Int.toNat (k : Int)) < 60 ∧ pd_p h (h 6 (Int.toNat (k : Int))) = cp k := hw k (by omega)
      repeat (first | refine hJ _ _ _ _ ?_ | refine And.intro (by omega) (fun _ => ?_) | refine And.intro (by omega) ?_ | refine And.intro (fun _ => ?_) (by omega))
      refine s_Po_crossProduct H w0.1 (Int.lt_trans w0.2.1 (by decide)) w1'.1 (Int.lt_trans w1'.2.1 (by decide)) wk.1 (Int.lt_trans wk.2.1 (by decide)) ?_
      rw [w0.2.2, w1'.2.2, wk.2.2]
      repeat (first | exact ih (k + 1) _ (by omega) (by omega) (by rw [su_s h2]; omega) | refine hJ _ _ _ _ ?_ | refine And.intro (by omega) (fun _ => ?_) | refine And.intro (by omega) ?_ | refine And.intro (fun _ => ?_) (by omega))
  by_cases h2 : 2 ≤ m
  · repeat (first | exact loop (m - 2) 2 _ (by omega) (by omega) (by rw [su_0 (by omega)]) | refine hJ _ _ _ _ ?_ | refine And.intro (by omega) (fun _ => ?_) | refine And.intro (by omega) ?_ | refine And.intro (fun _ => ?_) (by omega))
  · rw [su_0 (by omega)] at hQ
    repeat (first | refine hJ _ _ _ _ ?_ | refine And.intro (by omega) (fun _ => ?_) | refine And.intro (by omega) ?_ | refine And.intro (fun _ => ?_) (by omega))
    exact hQ
set_option maxRecDepth 20000 in
set_option maxHeartbeats 2000000 in
theorem s_Hu_sumRound {E : AE} {l : Launch} {h : AH} (H : pd_ok h) {m : Nat} {cp : Nat → ge_P} (K : hk h 4 m cp) {Q : AR} (hQ : Q (some (.inr (.inl (su (fun i => ge_r (cp i) (cp (nx m i))) 0 m)))) h) : am_g E l 88 [.inr (.inr 4)] h Q := by
  have m60 := K.2.1
  have hm : h 4 3 = (m : Int) := K.1
  have hw : ∀ j : Nat, j < m → 0 ≤ h 6 j ∧ h 6 j < 60 ∧ pd_p h (h 6 j) = cp j := K.2.2
  refine am_met T_Hu_sumRound (by decide) (Nat.le_of_ble_eq_true rfl) (fun J hJ => ?_)
  have loop : ∀ d k : Nat, ∀ (acc : Int), k + d = m → acc = su (fun i => ge_r (cp i) (cp (nx m i))) 0 k → J 4 [some (.inr (.inr 4)), some (.inr (.inl acc)), none, some (.inl (k : Int))] [] h := by
    intro d
    induction d with
    | zero =>
      intro k acc hk ha
      have : k = m := by omega
      subst this
      repeat (first | refine hJ _ _ _ _ ?_ | refine And.intro (by omega) (fun _ => ?_) | refine And.intro (by omega) ?_ | refine And.intro (fun _ => ?_) (by omega))
      rw [← ha] at hQ
      exact hQ
    | succ d ih =>
      intro k acc hk ha
      have wk : 0 ≤ h 6 (Int.toNat (k : Int)) ∧ h 6 (Int.toNat (k : Int)) < 60 ∧ pd_p h (h 6 (Int.toNat (k : Int))) = cp k := hw k (by omega)
      have wn := hw (nx m k) (nx_lt (by omega))
      repeat (first | refine hJ _ _ _ _ ?_ | refine And.intro (by omega) (fun _ => ?_) | refine And.intro (by omega) ?_ | refine And.intro (fun _ => ?_) (by omega))
      refine s_Hu_cornerAfter (.inl rfl) hm m60 (by omega) ?_
      repeat (first | refine hJ _ _ _ _ ?_ | refine And.intro (by omega) (fun _ => ?_) | refine And.intro (by omega) ?_ | refine And.intro (fun _ => ?_) (by omega))
      refine s_Po_roundProduct H wk.1 (Int.lt_trans wk.2.1 (by decide)) wn.1 (Int.lt_trans wn.2.1 (by decide)) ?_
      rw [wk.2.2, wn.2.2]
      repeat (first | exact ih (k + 1) _ (by omega) (by rw [su_s (by omega)]; omega) | refine hJ _ _ _ _ ?_ | refine And.intro (by omega) (fun _ => ?_) | refine And.intro (by omega) ?_ | refine And.intro (fun _ => ?_) (by omega))
  repeat (first | exact loop m 0 _ (by omega) (by rw [su_0 (by omega)]) | refine hJ _ _ _ _ ?_ | refine And.intro (by omega) (fun _ => ?_) | refine And.intro (by omega) ?_ | refine And.intro (fun _ => ?_) (by omega))
set_option maxRecDepth 20000 in
set_option maxHeartbeats 2000000 in
theorem s_Hu_holdsAll {E : AE} {l : Launch} {h : AH} (H : pd_ok h) {m n : Nat} {cp : Nat → ge_P} (K : hk h 4 m cp) (hn : h 1 2 = (n : Int)) (hn2 : n ≤ 60) (hall : ∀ p, p < n → 0 ≤ hu_at cp m (pd_q h p)) {Q : AR} (hQ : Q (some (.inl 1)) h) : am_g E l 87 [.inr (.inr 4)] h Q := by
  refine am_met T_Hu_holdsAllPoints (by decide) (Nat.le_of_ble_eq_true rfl) (fun J hJ => ?_)
  have loop : ∀ d k : Nat, k + d = n → J 2 [some (.inr (.inr 4)), some (.inl (k : Int))] [] h := by
    intro d
    induction d with
    | zero =>
      intro k hk
      repeat (first | refine hJ _ _ _ _ ?_ | refine And.intro (by omega) (fun _ => ?_) | refine And.intro (by omega) ?_ | refine And.intro (fun _ => ?_) (by omega))
      exact hQ
    | succ d ih =>
      intro k hk
      have hv := hu_at_v cp m (pd_p h (k : Int))
      have h0 : 0 ≤ hu_at cp m (pd_p h (k : Int)) := hall k (by omega)
      have this := ih (k + 1) (by omega)
      repeat (first | refine hJ _ _ _ _ ?_ | refine And.intro (by omega) (fun _ => ?_) | refine And.intro (by omega) ?_ | refine And.intro (fun _ => ?_) (by omega))
      refine s_Hu_holds (.inl rfl) H K (by omega) (by omega) ?_
      repeat (first | exact this | refine hJ _ _ _ _ ?_ | refine And.intro (by omega) (fun _ => ?_) | refine And.intro (by omega) ?_ | refine And.intro (fun _ => ?_) (by omega))
  have this := loop n 0 (by omega)
  repeat (first | exact this | refine hJ _ _ _ _ ?_ | refine And.intro (by omega) (fun _ => ?_) | refine And.intro (by omega) ?_ | refine And.intro (fun _ => ?_) (by omega))
set_option maxRecDepth 20000 in
set_option maxHeartbeats 2000000 in
theorem s_Hu_refresh {E : AE} {l : Launch} {h : AH} (H : pd_ok h) {n : Nat} (hn : h 1 2 = (n : Int)) (hn2 : n ≤ 60) (v1 : 0 ≤ h 4 4) (v2 : h 4 4 < 2147483648) (v3 : 0 ≤ h 1 3) (v4 : h 1 3 < 2147483648) {Q : AR} (hsame : h 4 4 = h 1 3 → Q none h)
    (hnew : ¬ h 4 4 = h 1 3 → ∀ h' : AH, (∀ c, c ≠ 4 → c ≠ 5 → c ≠ 6 → h' c = h c) → h' 4 4 = h 1 3 → h' 4 3 = (hu_m (pd_q h) (fun _ => true) n : Int) → (∀ j, j < hu_m (pd_q h) (fun _ => true) n → h' 6 j = hu_w (pd_q h) (fun _ => true) n j) → Q none h') : am_g E l 16 [.inr (.inr 4)] h Q := by
  refine am_met T_Hu_refresh (by decide) (Nat.le_of_ble_eq_true rfl) (fun J hJ => ?_)
  repeat (first | refine hJ _ _ _ _ ?_ | refine And.intro (by omega) (fun _ => ?_) | refine And.intro (by omega) ?_ | refine And.intro (fun _ => ?_) (by omega))
  refine And.intro (fun hv => ?_) (fun hv => ?_)
  · repeat (first | refine hJ _ _ _ _ ?_ | refine And.intro (by omega) (fun _ => ?_) | refine And.intro (by omega) ?_ | refine And.intro (fun _ => ?_) (by omega))
    exact hsame hv
  · repeat (first | refine hJ _ _ _ _ ?_ | refine And.intro (by omega) (fun _ => ?_) | refine And.intro (by omega) ?_ | refine And.intro (fun _ => ?_) (by omega))
    refine s_Hu_takeAllIn (.inl rfl) ?_
    repeat (first | refine hJ _ _ _ _ ?_ | refine And.intro (by omega) (fun _ => ?_) | refine And.intro (by omega) ?_ | refine And.intro (fun _ => ?_) (by omega))
    have H1 : pd_ok (aw h 5 (fun _ => 0) 60) := H
    have hm1 : pd_lo (aw h 5 (fun _ => 0) 60) 4 := fun i hi => .inl (aw_i hi)
    have hn1 : (aw h 5 (fun _ => 0) 60) 1 2 = (n : Int) := hn
    have hp : ∀ i, i < n → pd_q (aw h 5 (fun _ => 0) 60) i = pd_q h i := fun i _ => rfl
    have hmk : ∀ i, i < n → pd_m (aw h 5 (fun _ => 0) 60) 4 i = (fun _ => true) i := fun i hi => pd_m_t.mpr (aw_i (by omega))
    refine s_Hu_wrap (.inl rfl) H1 hm1 hn1 hn2 (fun m m1 m2 m3 => ?_)
    have em : m = hu_m (pd_q h) (fun _ => true) n := by
      rw [← hu_m_congr hp hmk]
      exact hu_N_uniq ⟨m2, m3⟩ (hu_m_N _ _ _)
    repeat (first | refine hJ _ _ _ _ ?_ | refine And.intro (by omega) (fun _ => ?_) | refine And.intro (by omega) ?_ | refine And.intro (fun _ => ?_) (by omega))
    refine hnew hv _ (fun c c4 c5 c6 => ?_) ?_ ?_ (fun j hj => ?_)
    · funext j
      simp [am_up, pd_wr, aw, c4, c5, c6]
    · simp [am_up, pd_wr, aw]
    · simp [am_up, pd_wr, em]
    · rw [← em] at hj
      rw [← hu_w_congr hp hmk]
      simp [am_up, pd_wr, hj]
