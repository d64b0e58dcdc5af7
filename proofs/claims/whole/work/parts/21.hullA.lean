/-! the class: hulls -/
def pd_q (h : AH) : Nat → ge_P := fun i => (h 2 i, h 3 i)
def pd_m (h : AH) (c : Nat) : Nat → Bool := fun i => decide (h (c + 1) i = 0)
theorem pd_m_t {h : AH} {c i : Nat} : pd_m h c i = true ↔ h (c + 1) i = 0 := by unfold pd_m; exact decide_eq_true_iff
/-- marks are marks -/
def pd_lo (h : AH) (c : Nat) : Prop := ∀ i : Nat, i < 60 → h (c + 1) i = 0 ∨ h (c + 1) i = 1
set_option maxRecDepth 20000 in
set_option maxHeartbeats 2000000 in
theorem s_Hu_takesIn {E : AE} {l : Launch} {h : AH} {c : Nat} (hc : c = 4 ∨ c = 14) (hm : pd_lo h c) {i : Int} (i1 : 0 ≤ i) (i2 : i < 60) {Q : AR} (h1 : pd_m h c i.toNat = true → Q (some (.inl 1)) h) (h0 : ¬ pd_m h c i.toNat = true → Q (some (.inl 0)) h) : am_g E l 7 [.inr (.inr c), .inl i] h Q := by
  have hv := hm i.toNat (by omega)
  rw [pd_m_t] at h1 h0
  rcases hc with rfl | rfl
  · refine am_met T_Hu_takesIn (by decide) (Nat.le_of_ble_eq_true rfl) (fun J hJ => ?_)
    have hv : h 5 i.toNat = 0 ∨ h 5 i.toNat = 1 := hv
    repeat (first | refine hJ _ _ _ _ ?_ | refine And.intro (by omega) (fun _ => ?_) | refine And.intro (by omega) ?_ | refine And.intro (fun _ => ?_) (by omega))
    refine And.intro (fun hx => ?_) (fun hx => ?_)
    · repeat (first | refine hJ _ _ _ _ ?_ | refine And.intro (by omega) (fun _ => ?_) | refine And.intro (by omega) ?_ | refine And.intro (fun _ => ?_) (by omega))
      exact h0 hx
    · repeat (first | refine hJ _ _ _ _ ?_ | refine And.intro (by omega) (fun _ => ?_) | refine And.intro (by omega) ?_ | refine And.intro (fun _ => ?_) (by omega))
      exact h1 hx
  · refine am_met T_Hu_takesIn (by decide) (Nat.le_of_ble_eq_true rfl) (fun J hJ => ?_)
    have hv : h 15 i.toNat = 0 ∨ h 15 i.toNat = 1 := hv
    repeat (first | refine hJ _ _ _ _ ?_ | refine And.intro (by omega) (fun _ => ?_) | refine And.intro (by omega) ?_ | refine And.intro (fun _ => ?_) (by omega))
    refine And.intro (fun hx => ?_) (fun hx => ?_)
    · repeat (first | refine hJ _ _ _ _ ?_ | refine And.intro (by omega) (fun _ => ?_) | refine And.intro (by omega) ?_ | refine And.intro (fun _ => ?_) (by omega))
      exact h0 hx
    · repeat (first | refine hJ _ _ _ _ ?_ | refine And.intro (by omega) (fun _ => ?_) | refine And.intro (by omega) ?_ | refine And.intro (fun _ => ?_) (by omega))
      exact h1 hx
set_option maxRecDepth 20000 in
set_option maxHeartbeats 2000000 in
theorem s_Hu_isLower {E : AE} {l : Launch} {h : AH} {c : Nat} (hc : c = 4 ∨ c = 14) (H : pd_ok h) {a b : Int} (a1 : 0 ≤ a) (a2 : a < 61) (b1 : 0 ≤ b) (b2 : b < 61) {Q : AR} (h1 : ge_lt (pd_p h a) (pd_p h b) → Q (some (.inl 1)) h) (h0 : ¬ ge_lt (pd_p h a) (pd_p h b) → Q (some (.inl 0)) h) : am_g E l 8 [.inr (.inr c), .inl a, .inl b] h Q := by
  have ra := pd_ok_i H a1 a2
  have rb := pd_ok_i H b1 b2
  have e : ge_lt (pd_p h a) (pd_p h b) ↔ (h 3 a.toNat < h 3 b.toNat ∨ (h 3 a.toNat = h 3 b.toNat ∧ h 2 a.toNat < h 2 b.toNat)) := Iff.rfl
  rw [e] at h1 h0
  rcases hc with rfl | rfl
  · refine am_met T_Hu_isLower (by decide) (Nat.le_of_ble_eq_true rfl) (fun J hJ => ?_)
    repeat (first | refine hJ _ _ _ _ ?_ | refine And.intro (by omega) (fun _ => ?_) | refine And.intro (by omega) ?_ | refine And.intro (fun _ => ?_) (by omega))
    refine And.intro (fun hx => ?_) (fun hx => ?_)
    · repeat (first | refine hJ _ _ _ _ ?_ | refine And.intro (by omega) (fun _ => ?_) | refine And.intro (by omega) ?_ | refine And.intro (fun _ => ?_) (by omega))
      exact h1 (.inl hx)
    · repeat (first | refine hJ _ _ _ _ ?_ | refine And.intro (by omega) (fun _ => ?_) | refine And.intro (by omega) ?_ | refine And.intro (fun _ => ?_) (by omega))
      refine And.intro (fun hy => ?_) (fun hy => ?_)
      · repeat (first | refine hJ _ _ _ _ ?_ | refine And.intro (by omega) (fun _ => ?_) | refine And.intro (by omega) ?_ | refine And.intro (fun _ => ?_) (by omega))
        exact h0 (by omega)
      · repeat (first | refine hJ _ _ _ _ ?_ | refine And.intro (by omega) (fun _ => ?_) | refine And.intro (by omega) ?_ | refine And.intro (fun _ => ?_) (by omega))
        refine And.intro (fun hz => ?_) (fun hz => ?_)
        · repeat (first | refine hJ _ _ _ _ ?_ | refine And.intro (by omega) (fun _ => ?_) | refine And.intro (by omega) ?_ | refine And.intro (fun _ => ?_) (by omega))
          exact h0 (by omega)
        · repeat (first | refine hJ _ _ _ _ ?_ | refine And.intro (by omega) (fun _ => ?_) | refine And.intro (by omega) ?_ | refine And.intro (fun _ => ?_) (by omega))
          exact h1 (.inr ⟨hy, hz⟩)
  · refine am_met T_Hu_isLower (by decide) (Nat.le_of_ble_eq_true rfl) (fun J hJ => ?_)
    repeat (first | refine hJ _ _ _ _ ?_ | refine And.intro (by omega) (fun _ => ?_) | refine And.intro (by omega) ?_ | refine And.intro (fun _ => ?_) (by omega))
    refine And.intro (fun hx => ?_) (fun hx => ?_)
    · repeat (first | refine hJ _ _ _ _ ?_ | refine And.intro (by omega) (fun _ => ?_) | refine And.intro (by omega) ?_ | refine And.intro (fun _ => ?_) (by omega))
      exact h1 (.inl hx)
    · repeat (first | refine hJ _ _ _ _ ?_ | refine And.intro (by omega) (fun _ => ?_) | refine And.intro (by omega) ?_ | refine And.intro (fun _ => ?_) (by omega))
      refine And.intro (fun hy => ?_) (fun hy => ?_)
      · repeat (first | refine hJ _ _ _ _ ?_ | refine And.intro (by omega) (fun _ => ?_) | refine And.intro (by omega) ?_ | refine And.intro (fun _ => ?_) (by omega))
        exact h0 (by omega)
      · repeat (first | refine hJ _ _ _ _ ?_ | refine And.intro (by omega) (fun _ => ?_) | refine And.intro (by omega) ?_ | refine And.intro (fun _ => ?_) (by omega))
        refine And.intro (fun hz => ?_) (fun hz => ?_)
        · repeat (first | refine hJ _ _ _ _ ?_ | refine And.intro (by omega) (fun _ => ?_) | refine And.intro (by omega) ?_ | refine And.intro (fun _ => ?_) (by omega))
          exact h0 (by omega)
        · repeat (first | refine hJ _ _ _ _ ?_ | refine And.intro (by omega) (fun _ => ?_) | refine And.intro (by omega) ?_ | refine And.intro (fun _ => ?_) (by omega))
          exact h1 (.inr ⟨hy, hz⟩)
theorem hu_1_b (pt : Nat → ge_P) (mk : Nat → Bool) (k : Nat) : hu_1 pt mk k = -1 ∨ (0 ≤ hu_1 pt mk k ∧ hu_1 pt mk k < k) := by
  rcases hu_1_ok pt mk k with ⟨h, -⟩ | ⟨h1, h2, -⟩
  · exact .inl h
  · exact .inr ⟨h1, by omega⟩
theorem hu_f_b (pt : Nat → ge_P) (mk : Nat → Bool) (a : ge_P) (k : Nat) : hu_f pt mk a k = -1 ∨ (0 ≤ hu_f pt mk a k ∧ hu_f pt mk a k < k) := by
  induction k with
  | zero => exact .inl rfl
  | succ k ih =>
    have e : hu_f pt mk a (k + 1) = if mk k = true ∧ pt k ≠ a ∧ (hu_f pt mk a k < 0 ∨ (ge_x a (pt (hu_f pt mk a k).toNat) (pt k) < 0 ∨ (ge_x a (pt (hu_f pt mk a k).toNat) (pt k) = 0 ∧ hu_d a (pt (hu_f pt mk a k).toNat) < hu_d a (pt k)))) then (k : Int) else hu_f pt mk a k := rfl
    rw [e]
    split
    · right; omega
    · rcases ih with h | h
      · exact .inl h
      · right; omega
set_option maxRecDepth 20000 in
set_option maxHeartbeats 2000000 in
theorem s_Hu_lowest {E : AE} {l : Launch} {h : AH} {c : Nat} (hc : c = 4 ∨ c = 14) (H : pd_ok h) (hm : pd_lo h c) {n : Nat} (hn : h 1 2 = (n : Int)) (hn2 : n ≤ 60) {Q : AR} (hQ : Q (some (.inl (hu_1 (pd_q h) (pd_m h c) n))) h) : am_g E l 9 [.inr (.inr c)] h Q := by
  have step1 : ∀ p : Nat, pd_m h c p = true → (hu_1 (pd_q h) (pd_m h c) p = -1 ∨ ge_lt (pd_q h p) (pd_q h (hu_1 (pd_q h) (pd_m h c) p).toNat)) → hu_1 (pd_q h) (pd_m h c) (p + 1) = (p : Int) := fun p h1 h2 => if_pos ⟨h1, h2.elim (fun g => .inl (by omega)) .inr⟩
  have step0 : ∀ p : Nat, (¬ pd_m h c p = true ∨ (¬ hu_1 (pd_q h) (pd_m h c) p = -1 ∧ ¬ ge_lt (pd_q h p) (pd_q h (hu_1 (pd_q h) (pd_m h c) p).toNat))) → hu_1 (pd_q h) (pd_m h c) (p + 1) = hu_1 (pd_q h) (pd_m h c) p := fun p h1 => if_neg (fun ⟨g1, g2⟩ => by
    rcases h1 with h1 | ⟨h1, h2⟩
    · exact h1 g1
    · rcases g2 with g | g
      · have := hu_1_b (pd_q h) (pd_m h c) p; omega
      · exact h2 g)
  rcases hc with rfl | rfl
  · refine am_met T_Hu_lowest (by decide) (Nat.le_of_ble_eq_true rfl) (fun J hJ => ?_)
    have loop : ∀ k p : Nat, p + k = n → J 4 [some (.inr (.inr 4)), some (.inl (hu_1 (pd_q h) (pd_m h 4) p)), some (.inl (p : Int))] [] h := by
      intro k
      induction k with
      | zero =>
        intro p hp
        have hb := hu_1_b (pd_q h) (pd_m h 4) p
        repeat (first | refine hJ _ _ _ _ ?_ | refine And.intro (by omega) (fun _ => ?_) | refine And.intro (by omega) ?_ | refine And.intro (fun _ => ?_) (by omega))
        have : p = n := by omega
        subst this
        exact hQ
      | succ k ih =>
        intro p hp
        have hb := hu_1_b (pd_q h) (pd_m h 4) p
        repeat (first | refine hJ _ _ _ _ ?_ | refine And.intro (by omega) (fun _ => ?_) | refine And.intro (by omega) ?_ | refine And.intro (fun _ => ?_) (by omega))
        refine s_Hu_takesIn (.inl rfl) hm (by omega) (by omega) (fun ht => ?_) (fun ht => ?_)
        · repeat (first | refine hJ _ _ _ _ ?_ | refine And.intro (by omega) (fun _ => ?_) | refine And.intro (by omega) ?_ | refine And.intro (fun _ => ?_) (by omega))
          refine And.intro (fun hx => ?_) (fun hx => ?_)
          · have e := step1 p ht (.inl hx)
            have := ih (p + 1) (by omega)
            rw [e] at this
            repeat (first | exact this | refine hJ _ _ _ _ ?_ | refine And.intro (by omega) (fun _ => ?_) | refine And.intro (by omega) ?_ | refine And.intro (fun _ => ?_) (by omega))
          · repeat (first | refine hJ _ _ _ _ ?_ | refine And.intro (by omega) (fun _ => ?_) | refine And.intro (by omega) ?_ | refine And.intro (fun _ => ?_) (by omega))
            refine s_Hu_isLower (.inl rfl) H (by omega) (by omega) (by omega) (by omega) (fun hl => ?_) (fun hl => ?_)
            · have e := step1 p ht (.inr hl)
              have := ih (p + 1) (by omega)
              rw [e] at this
              repeat (first | exact this | refine hJ _ _ _ _ ?_ | refine And.intro (by omega) (fun _ => ?_) | refine And.intro (by omega) ?_ | refine And.intro (fun _ => ?_) (by omega))
            · have e := step0 p (.inr ⟨hx, hl⟩)
              have := ih (p + 1) (by omega)
              rw [e] at this
              repeat (first | exact this | refine hJ _ _ _ _ ?_ | refine And.intro (by omega) (fun _ => ?_) | refine And.intro (by omega) ?_ | refine And.intro (fun _ => ?_) (by omega))
        · have e := step0 p (.inl ht)
          have := ih (p + 1) (by omega)
          rw [e] at this
          repeat (first | exact this | refine hJ _ _ _ _ ?_ | refine And.intro (by omega) (fun _ => ?_) | refine And.intro (by omega) ?_ | refine And.intro (fun _ => ?_) (by omega))
    refine hJ _ _ _ _ ?_
    refine hJ _ _ _ _ ?_
    refine hJ _ _ _ _ ?_
    refine hJ _ _ _ _ ?_
    exact loop n 0 (by omega)
  · refine am_met T_Hu_lowest (by decide) (Nat.le_of_ble_eq_true rfl) (fun J hJ => ?_)
    have loop : ∀ k p : Nat, p + k = n → J 4 [some (.inr (.inr 14)), some (.inl (hu_1 (pd_q h) (pd_m h 14) p)), some (.inl (p : Int))] [] h := by
      intro k
      induction k with
      | zero =>
        intro p hp
        have hb := hu_1_b (pd_q h) (pd_m h 14) p
        repeat (first | refine hJ _ _ _ _ ?_ | refine And.intro (by omega) (fun _ => ?_) | refine And.intro (by omega) ?_ | refine And.intro (fun _ => ?_) (by omega))
        have : p = n := by omega
        subst this
        exact hQ
      | succ k ih =>
        intro p hp
        have hb := hu_1_b (pd_q h) (pd_m h 14) p
        repeat (first | refine hJ _ _ _ _ ?_ | refine And.intro (by omega) (fun _ => ?_) | refine And.intro (by omega) ?_ | refine And.intro (fun _ => ?_) (by omega))
        refine s_Hu_takesIn (.inr rfl) hm (by omega) (by omega) (fun ht => ?_) (fun ht => ?_)
        · repeat (first | refine hJ _ _ _ _ ?_ | refine And.intro (by omega) (fun _ => ?_) | refine And.intro (by omega) ?_ | refine And.intro (fun _ => ?_) (by omega))
          refine And.intro (fun hx => ?_) (fun hx => ?_)
          · have e := step1 p ht (.inl hx)
            have := ih (p + 1) (by omega)
            rw [e] at this
            repeat (first | exact this | refine hJ _ _ _ _ ?_ | refine And.intro (by omega) (fun _ => ?_) | refine And.intro (by omega) ?_ | refine And.intro (fun _ => ?_) (by omega))
          · repeat (first | refine hJ _ _ _ _ ?_ | refine And.intro (by omega) (fun _ => ?_) | refine And.intro (by omega) ?_ | refine And.intro (fun _ => ?_) (by omega))
            refine s_Hu_isLower (.inr rfl) H (by omega) (by omega) (by omega) (by omega) (fun hl => ?_) (fun hl => ?_)
            · have e := step1 p ht (.inr hl)
              have := ih (p + 1) (by omega)
              rw [e] at this
              repeat (first | exact this | refine hJ _ _ _ _ ?_ | refine And.intro (by omega) (fun _ => ?_) | refine And.intro (by omega) ?_ | refine And.intro (fun _ => ?_) (by omega))
            · have e := step0 p (.inr ⟨hx, hl⟩)
              have := ih (p + 1) (by omega)
              rw [e] at this
              repeat (first | exact this | refine hJ _ _ _ _ ?_ | refine And.intro (by omega) (fun _ => ?_) | refine And.intro (by omega) ?_ | refine And.intro (fun _ => ?_) (by omega))
        · have e := step0 p (.inl ht)
          have := ih (p + 1) (by omega)
          rw [e] at this
          repeat (first | exact this | refine hJ _ _ _ _ ?_ | refine And.intro (by omega) (fun _ => ?_) | refine And.intro (by omega) ?_ | refine And.intro (fun _ => ?_) (by omega))
    refine hJ _ _ _ _ ?_
    refine hJ _ _ _ _ ?_
    refine hJ _ _ _ _ ?_
    refine hJ _ _ _ _ ?_
    exact loop n 0 (by omega)
set_option maxRecDepth 20000 in
set_option maxHeartbeats 2000000 in
theorem s_Hu_isBetter {E : AE} {l : Launch} {h : AH} {c : Nat} (hc : c = 4 ∨ c = 14) (H : pd_ok h) {a b p : Int} (a1 : 0 ≤ a) (a2 : a < 61) (b1 : 0 ≤ b) (b2 : b < 61) (p1 : 0 ≤ p) (p2 : p < 61) {Q : AR} (h1 : (ge_x (pd_p h a) (pd_p h b) (pd_p h p) < 0 ∨ (ge_x (pd_p h a) (pd_p h b) (pd_p h p) = 0 ∧ hu_d (pd_p h a) (pd_p h b) < hu_d (pd_p h a) (pd_p h p))) → Q (some (.inl 1)) h) (h0 : ¬ (ge_x (pd_p h a) (pd_p h b) (pd_p h p) < 0 ∨ (ge_x (pd_p h a) (pd_p h b) (pd_p h p) = 0 ∧ hu_d (pd_p h a) (pd_p h b) < hu_d (pd_p h a) (pd_p h p))) → Q (some (.inl 0)) h) : am_g E l 13 [.inr (.inr c), .inl a, .inl p, .inl b] h Q := by
  have hx := pd_x_b H a1 a2 b1 b2 p1 p2
  have hd1 := pd_d_b H a1 a2 b1 b2
  have hd2 := pd_d_b H a1 a2 p1 p2
  rcases hc with rfl | rfl
  · refine am_met T_Hu_isBetter (by decide) (Nat.le_of_ble_eq_true rfl) (fun J hJ => ?_)
    repeat (first | refine hJ _ _ _ _ ?_ | refine And.intro (by omega) (fun _ => ?_) | refine And.intro (by omega) ?_ | refine And.intro (fun _ => ?_) (by omega))
    refine s_Po_crossProduct H a1 a2 b1 b2 p1 p2 ?_
    repeat (first | refine hJ _ _ _ _ ?_ | refine And.intro (by omega) (fun _ => ?_) | refine And.intro (by omega) ?_ | refine And.intro (fun _ => ?_) (by omega))
    refine And.intro (fun hc => ?_) (fun hc => ?_)
    · repeat (first | refine hJ _ _ _ _ ?_ | refine And.intro (by omega) (fun _ => ?_) | refine And.intro (by omega) ?_ | refine And.intro (fun _ => ?_) (by omega))
      exact h1 (.inl hc)
    · repeat (first | refine hJ _ _ _ _ ?_ | refine And.intro (by omega) (fun _ => ?_) | refine And.intro (by omega) ?_ | refine And.intro (fun _ => ?_) (by omega))
      refine And.intro (fun hd => ?_) (fun hd => ?_)
      · repeat (first | refine hJ _ _ _ _ ?_ | refine And.intro (by omega) (fun _ => ?_) | refine And.intro (by omega) ?_ | refine And.intro (fun _ => ?_) (by omega))
        exact h0 (by omega)
      · repeat (first | refine hJ _ _ _ _ ?_ | refine And.intro (by omega) (fun _ => ?_) | refine And.intro (by omega) ?_ | refine And.intro (fun _ => ?_) (by omega))
        refine s_Po_squaredDistance H a1 a2 p1 p2 ?_
        repeat (first | refine hJ _ _ _ _ ?_ | refine And.intro (by omega) (fun _ => ?_) | refine And.intro (by omega) ?_ | refine And.intro (fun _ => ?_) (by omega))
        refine s_Po_squaredDistance H a1 a2 b1 b2 ?_
        repeat (first | refine hJ _ _ _ _ ?_ | refine And.intro (by omega) (fun _ => ?_) | refine And.intro (by omega) ?_ | refine And.intro (fun _ => ?_) (by omega))
        refine And.intro (fun he => ?_) (fun he => ?_)
        · repeat (first | refine hJ _ _ _ _ ?_ | refine And.intro (by omega) (fun _ => ?_) | refine And.intro (by omega) ?_ | refine And.intro (fun _ => ?_) (by omega))
          exact h0 (by omega)
        · repeat (first | refine hJ _ _ _ _ ?_ | refine And.intro (by omega) (fun _ => ?_) | refine And.intro (by omega) ?_ | refine And.intro (fun _ => ?_) (by omega))
          exact h1 (.inr ⟨hd, he⟩)
  · refine am_met T_Hu_isBetter (by decide) (Nat.le_of_ble_eq_true rfl) (fun J hJ => ?_)
    repeat (first | refine hJ _ _ _ _ ?_ | refine And.intro (by omega) (fun _ => ?_) | refine And.intro (by omega) ?_ | refine And.intro (fun _ => ?_) (by omega))
    refine s_Po_crossProduct H a1 a2 b1 b2 p1 p2 ?_
    repeat (first | refine hJ _ _ _ _ ?_ | refine And.intro (by omega) (fun _ => ?_) | refine And.intro (by omega) ?_ | refine And.intro (fun _ => ?_) (by omega))
    refine And.intro (fun hc => ?_) (fun hc => ?_)
    · repeat (first | refine hJ _ _ _ _ ?_ | refine And.intro (by omega) (fun _ => ?_) | refine And.intro (by omega) ?_ | refine And.intro (fun _ => ?_) (by omega))
      exact h1 (.inl hc)
    · repeat (first | refine hJ _ _ _ _ ?_ | refine And.intro (by omega) (fun _ => ?_) | refine And.intro (by omega) ?_ | refine And.intro (fun _ => ?_) (by omega))
      refine And.intro (fun hd => ?_) (fun hd => ?_)
      · repeat (first | refine hJ _ _ _ _ ?_ | refine And.intro (by omega) (fun _ => ?_) | refine And.intro (by omega) ?_ | refine And.intro (fun _ => ?_) (by omega))
        exact h0 (by omega)
      · repeat (first | refine hJ _ _ _ _ ?_ | refine And.intro (by omega) (fun _ => ?_) | refine And.intro (by omega) ?_ | refine And.intro (fun _ => ?_) (by omega))
        refine s_Po_squaredDistance H a1 a2 p1 p2 ?_
        repeat (first | refine hJ _ _ _ _ ?_ | refine And.intro (by omega) (fun _ => ?_) | refine And.intro (by omega) ?_ | refine And.intro (fun _ => ?_) (by omega))
        refine s_Po_squaredDistance H a1 a2 b1 b2 ?_
        repeat (first | refine hJ _ _ _ _ ?_ | refine And.intro (by omega) (fun _ => ?_) | refine And.intro (by omega) ?_ | refine And.intro (fun _ => ?_) (by omega))
        refine And.intro (fun he => ?_) (fun he => ?_)
        · repeat (first | refine hJ _ _ _ _ ?_ | refine And.intro (by omega) (fun _ => ?_) | refine And.intro (by omega) ?_ | refine And.intro (fun _ => ?_) (by omega))
          exact h0 (by omega)
        · repeat (first | refine hJ _ _ _ _ ?_ | refine And.intro (by omega) (fun _ => ?_) | refine And.intro (by omega) ?_ | refine And.intro (fun _ => ?_) (by omega))
          exact h1 (.inr ⟨hd, he⟩)
set_option maxRecDepth 20000 in
set_option maxHeartbeats 2000000 in
theorem s_Hu_cornerBehind {E : AE} {l : Launch} {h : AH} {c : Nat} (hc : c = 4 ∨ c = 14) (H : pd_ok h) (hm : pd_lo h c) {n : Nat} (hn : h 1 2 = (n : Int)) (hn2 : n ≤ 60) {a : Int} (a1 : 0 ≤ a) (a2 : a < 60) {Q : AR} (hQ : Q (some (.inl (hu_f (pd_q h) (pd_m h c) (pd_p h a) n))) h) : am_g E l 14 [.inr (.inr c), .inl a] h Q := by
  have step1 : ∀ p : Nat, pd_m h c p = true → pd_q h p ≠ pd_p h a → (hu_f (pd_q h) (pd_m h c) (pd_p h a) p = -1 ∨ (ge_x (pd_p h a) (pd_q h (hu_f (pd_q h) (pd_m h c) (pd_p h a) p).toNat) (pd_q h p) < 0 ∨ (ge_x (pd_p h a) (pd_q h (hu_f (pd_q h) (pd_m h c) (pd_p h a) p).toNat) (pd_q h p) = 0 ∧ hu_d (pd_p h a) (pd_q h (hu_f (pd_q h) (pd_m h c) (pd_p h a) p).toNat) < hu_d (pd_p h a) (pd_q h p)))) → hu_f (pd_q h) (pd_m h c) (pd_p h a) (p + 1) = (p : Int) := fun p h1 h2 h3 => if_pos ⟨h1, h2, h3.elim (fun g => .inl (by omega)) .inr⟩
  have step0 : ∀ p : Nat, (¬ pd_m h c p = true ∨ pd_q h p = pd_p h a ∨ (¬ hu_f (pd_q h) (pd_m h c) (pd_p h a) p = -1 ∧ ¬ (ge_x (pd_p h a) (pd_q h (hu_f (pd_q h) (pd_m h c) (pd_p h a) p).toNat) (pd_q h p) < 0 ∨ (ge_x (pd_p h a) (pd_q h (hu_f (pd_q h) (pd_m h c) (pd_p h a) p).toNat) (pd_q h p) = 0 ∧ hu_d (pd_p h a) (pd_q h (hu_f (pd_q h) (pd_m h c) (pd_p h a) p).toNat) < hu_d (pd_p h a) (pd_q h p))))) → hu_f (pd_q h) (pd_m h c) (pd_p h a) (p + 1) = hu_f (pd_q h) (pd_m h c) (pd_p h a) p := fun p h1 => if_neg (fun ⟨g1, g2, g3⟩ => by
    rcases h1 with h1 | h1 | ⟨h1, h2⟩
    · exact h1 g1
    · exact g2 h1
    · rcases g3 with g | g
      · have := hu_f_b (pd_q h) (pd_m h c) (pd_p h a) p; omega
      · exact h2 g)
  rcases hc with rfl | rfl
  · refine am_met T_Hu_cornerBehind (by decide) (Nat.le_of_ble_eq_true rfl) (fun J hJ => ?_)
    have loop : ∀ k p : Nat, p + k = n → J 4 [some (.inr (.inr 4)), some (.inl a), some (.inl (hu_f (pd_q h) (pd_m h 4) (pd_p h a) p)), some (.inl (p : Int))] [] h := by
      intro k
      induction k with
      | zero =>
        intro p hp
        have hb := hu_f_b (pd_q h) (pd_m h 4) (pd_p h a) p
        repeat (first | refine hJ _ _ _ _ ?_ | refine And.intro (by omega) (fun _ => ?_) | refine And.intro (by omega) ?_ | refine And.intro (fun _ => ?_) (by omega))
        have : p = n := by omega
        subst this
        exact hQ
      | succ k ih =>
        intro p hp
        have hb := hu_f_b (pd_q h) (pd_m h 4) (pd_p h a) p
        repeat (first | refine hJ _ _ _ _ ?_ | refine And.intro (by omega) (fun _ => ?_) | refine And.intro (by omega) ?_ | refine And.intro (fun _ => ?_) (by omega))
        refine s_Hu_takesIn (.inl rfl) hm (by omega) (by omega) (fun ht => ?_) (fun ht => ?_)
        · repeat (first | refine hJ _ _ _ _ ?_ | refine And.intro (by omega) (fun _ => ?_) | refine And.intro (by omega) ?_ | refine And.intro (fun _ => ?_) (by omega))
          refine s_Po_areAtOnePlace H a1 (by omega) (by omega) (by omega) (fun hs => ?_) (fun hs => ?_)
          · have e := step0 p (.inr (.inl hs.symm))
            have := ih (p + 1) (by omega)
            rw [e] at this
            repeat (first | exact this | refine hJ _ _ _ _ ?_ | refine And.intro (by omega) (fun _ => ?_) | refine And.intro (by omega) ?_ | refine And.intro (fun _ => ?_) (by omega))
          · repeat (first | refine hJ _ _ _ _ ?_ | refine And.intro (by omega) (fun _ => ?_) | refine And.intro (by omega) ?_ | refine And.intro (fun _ => ?_) (by omega))
            refine And.intro (fun hx => ?_) (fun hx => ?_)
            · have e := step1 p ht (Ne.symm hs) (.inl hx)
              have := ih (p + 1) (by omega)
              rw [e] at this
              repeat (first | exact this | refine hJ _ _ _ _ ?_ | refine And.intro (by omega) (fun _ => ?_) | refine And.intro (by omega) ?_ | refine And.intro (fun _ => ?_) (by omega))
            · repeat (first | refine hJ _ _ _ _ ?_ | refine And.intro (by omega) (fun _ => ?_) | refine And.intro (by omega) ?_ | refine And.intro (fun _ => ?_) (by omega))
              refine s_Hu_isBetter (.inl rfl) H a1 (by omega) (by omega) (by omega) (by omega) (by omega) (fun hl => ?_) (fun hl => ?_)
              · have e := step1 p ht (Ne.symm hs) (.inr hl)
                have := ih (p + 1) (by omega)
                rw [e] at this
                repeat (first | exact this | refine hJ _ _ _ _ ?_ | refine And.intro (by omega) (fun _ => ?_) | refine And.intro (by omega) ?_ | refine And.intro (fun _ => ?_) (by omega))
              · have e := step0 p (.inr (.inr ⟨hx, hl⟩))
                have := ih (p + 1) (by omega)
                rw [e] at this
                repeat (first | exact this | refine hJ _ _ _ _ ?_ | refine And.intro (by omega) (fun _ => ?_) | refine And.intro (by omega) ?_ | refine And.intro (fun _ => ?_) (by omega))
        · have e := step0 p (.inl ht)
          have := ih (p + 1) (by omega)
          rw [e] at this
          repeat (first | exact this | refine hJ _ _ _ _ ?_ | refine And.intro (by omega) (fun _ => ?_) | refine And.intro (by omega) ?_ | refine And.intro (fun _ => ?_) (by omega))
    refine hJ _ _ _ _ ?_
    refine hJ _ _ _ _ ?_
    refine hJ _ _ _ _ ?_
    refine hJ _ _ _ _ ?_
    exact loop n 0 (by omega)
  · refine am_met T_Hu_cornerBehind (by decide) (Nat.le_of_ble_eq_true rfl) (fun J hJ => ?_)
    have loop : ∀ k p : Nat, p + k = n → J 4 [some (.inr (.inr 14)), some (.inl a), some (.inl (hu_f (pd_q h) (pd_m h 14) (pd_p h a) p)), some (.inl (p : Int))] [] h := by
      intro k
      induction k with
      | zero =>
        intro p hp
        have hb := hu_f_b (pd_q h) (pd_m h 14) (pd_p h a) p
        repeat (first | refine hJ _ _ _ _ ?_ | refine And.intro (by omega) (fun _ => ?_) | refine And.intro (by omega) ?_ | refine And.intro (fun _ => ?_) (by omega))
        have : p = n := by omega
        subst this
        exact hQ
      | succ k ih =>
        intro p hp
        have hb := hu_f_b (pd_q h) (pd_m h 14) (pd_p h a) p
        repeat (first | refine hJ _ _ _ _ ?_ | refine And.intro (by omega) (fun _ => ?_) | refine And.intro (by omega) ?_ | refine And.intro (fun _ => ?_) (by omega))
        refine s_Hu_takesIn (.inr rfl) hm (by omega) (by omega) (fun ht => ?_) (fun ht => ?_)
        · repeat (first | refine hJ _ _ _ _ ?_ | refine And.intro (by omega) (fun _ => ?_) | refine And.intro (by omega) ?_ | refine And.intro (fun _ => ?_) (by omega))
          refine s_Po_areAtOnePlace H a1 (by omega) (by omega) (by omega) (fun hs => ?_) (fun hs => ?_)
          · have e := step0 p (.inr (.inl hs.symm))
            have := ih (p + 1) (by omega)
            rw [e] at this
            repeat (first | exact this | refine hJ _ _ _ _ ?_ | refine And.intro (by omega) (fun _ => ?_) | refine And.intro (by omega) ?_ | refine And.intro (fun _ => ?_) (by omega))
          · repeat (first | refine hJ _ _ _ _ ?_ | refine And.intro (by omega) (fun _ => ?_) | refine And.intro (by omega) ?_ | refine And.intro (fun _ => ?_) (by omega))
            refine And.intro (fun hx => ?_) (fun hx => ?_)
            · have e := step1 p ht (Ne.symm hs) (.inl hx)
              have := ih (p + 1) (by omega)
              rw [e] at this
              repeat (first | exact this | refine hJ _ _ _ _ ?_ | refine And.intro (by omega) (fun _ => ?_) | refine And.intro (by omega) ?_ | refine And.intro (fun _ => ?_) (by omega))
            · repeat (first | refine hJ _ _ _ _ ?_ | refine And.intro (by omega) (fun _ => ?_) | refine And.intro (by omega) ?_ | refine And.intro (fun _ => ?_) (by omega))
              refine s_Hu_isBetter (.inr rfl) H a1 (by omega) (by omega) (by omega) (by omega) (by omega) (fun hl => ?_) (fun hl => ?_)
              · have e := step1 p ht (Ne.symm hs) (.inr hl)
                have := ih (p + 1) (by omega)
                rw [e] at this
                repeat (first | exact this | refine hJ _ _ _ _ ?_ | refine And.intro (by omega) (fun _ => ?_) | refine And.intro (by omega) ?_ | refine And.intro (fun _ => ?_) (by omega))
              · have e := step0 p (.inr (.inr ⟨hx, hl⟩))
                have := ih (p + 1) (by omega)
                rw [e] at this
                repeat (first | exact this | refine hJ _ _ _ _ ?_ | refine And.intro (by omega) (fun _ => ?_) | refine And.intro (by omega) ?_ | refine And.intro (fun _ => ?_) (by omega))
        · have e := step0 p (.inl ht)
          have := ih (p + 1) (by omega)
          rw [e] at this
          repeat (first | exact this | refine hJ _ _ _ _ ?_ | refine And.intro (by omega) (fun _ => ?_) | refine And.intro (by omega) ?_ | refine And.intro (fun _ => ?_) (by omega))
    refine hJ _ _ _ _ ?_
    refine hJ _ _ _ _ ?_
    refine hJ _ _ _ _ ?_
    refine hJ _ _ _ _ ?_
    exact loop n 0 (by omega)
