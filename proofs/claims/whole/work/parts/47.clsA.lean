/-! the class: points, on -/
set_option maxRecDepth 20000 in
set_option maxHeartbeats 2000000 in
theorem s_Po_append {E : AE} {l : Launch} {h : AH} (n1 : 0 ≤ h 1 2) (n2 : h 1 2 < 60) {x y : Int} {Q : AR} (hQ : Q none (am_up (am_up (am_up (am_up h 2 (h 1 2).toNat x) 3 (h 1 2).toNat y) 1 2 (h 1 2 + 1)) 1 3 (h 1 3 + 1))) : am_g E l 1 [.inr (.inr 1), .inl x, .inl y] h Q := by
  refine am_met T_Po_append (by decide) (Nat.le_of_ble_eq_true rfl) (fun J hJ => ?_)
  have e1 : am_up h 2 (h 1 2).toNat x 1 2 = h 1 2 := rfl
  repeat (first | refine hJ _ _ _ _ ?_ | refine And.intro (by omega) (fun _ => ?_) | refine And.intro (by omega) ?_ | refine And.intro (fun _ => ?_) (by omega))
  exact hQ
set_option maxRecDepth 20000 in
set_option maxHeartbeats 2000000 in
theorem s_Po_removeAll {E : AE} {l : Launch} {h : AH} {Q : AR} (hQ : Q none (am_up (am_up h 1 2 0) 1 3 (h 1 3 + 1))) : am_g E l 3 [.inr (.inr 1)] h Q := by
  refine am_met T_Po_removeAll (by decide) (Nat.le_of_ble_eq_true rfl) (fun J hJ => ?_)
  repeat (first | refine hJ _ _ _ _ ?_ | refine And.intro (by omega) (fun _ => ?_) | refine And.intro (by omega) ?_ | refine And.intro (fun _ => ?_) (by omega))
  exact hQ
set_option maxRecDepth 20000 in
set_option maxHeartbeats 2000000 in
theorem s_Ro_removeAll {E : AE} {l : Launch} {h : AH} {Q : AR} (hQ : Q none (am_up (am_up h 17 2 0) 17 3 (h 17 3 + 1))) : am_g E l 4 [.inr (.inr 17)] h Q := by
  refine am_met T_Ro_removeAll (by decide) (Nat.le_of_ble_eq_true rfl) (fun J hJ => ?_)
  repeat (first | refine hJ _ _ _ _ ?_ | refine And.intro (by omega) (fun _ => ?_) | refine And.intro (by omega) ?_ | refine And.intro (fun _ => ?_) (by omega))
  exact hQ
set_option maxRecDepth 20000 in
set_option maxHeartbeats 2000000 in
theorem s_Po_ask {E : AE} {l : Launch} {h : AH} {x y : Int} {Q : AR} (hQ : Q none (am_up (am_up h 2 60 x) 3 60 y)) : am_g E l 48 [.inr (.inr 1), .inl x, .inl y] h Q := by
  refine am_met T_Po_ask (by decide) (Nat.le_of_ble_eq_true rfl) (fun J hJ => ?_)
  repeat (first | refine hJ _ _ _ _ ?_ | refine And.intro (by omega) (fun _ => ?_) | refine And.intro (by omega) ?_ | refine And.intro (fun _ => ?_) (by omega))
  exact hQ
set_option maxRecDepth 20000 in
set_option maxHeartbeats 2000000 in
theorem s_Po_isOnSegment {E : AE} {l : Launch} {h : AH} (H : pd_ok h) {a b p : Int} (a1 : 0 ≤ a) (a2 : a < 61) (b1 : 0 ≤ b) (b2 : b < 61) (p1 : 0 ≤ p) (p2 : p < 61) {Q : AR} (h1 : ge_on (pd_p h a) (pd_p h b) (pd_p h p) → Q (some (.inl 1)) h) (h0 : ¬ ge_on (pd_p h a) (pd_p h b) (pd_p h p) → Q (some (.inl 0)) h) : am_g E l 18 [.inr (.inr 1), .inl a, .inl b, .inl p] h Q := by
  rw [← ge_on_iff] at h1 h0
  have hx := pd_x_b H a1 a2 b1 b2 p1 p2
  have hd := pd_dot_b H p1 p2 a1 a2 b1 b2
  refine am_met T_Po_isOnSegment (by decide) (Nat.le_of_ble_eq_true rfl) (fun J hJ => ?_)
  repeat (first | refine hJ _ _ _ _ ?_ | refine And.intro (by omega) (fun _ => ?_) | refine And.intro (by omega) ?_ | refine And.intro (fun _ => ?_) (by omega))
  refine s_Po_crossProduct H a1 a2 b1 b2 p1 p2 ?_
  repeat (first | refine hJ _ _ _ _ ?_ | refine And.intro (by omega) (fun _ => ?_) | refine And.intro (by omega) ?_ | refine And.intro (fun _ => ?_) (by omega))
  refine And.intro (fun hc => ?_) (fun hc => ?_)
  · repeat (first | refine hJ _ _ _ _ ?_ | refine And.intro (by omega) (fun _ => ?_) | refine And.intro (by omega) ?_ | refine And.intro (fun _ => ?_) (by omega))
    exact h0 (fun g => hc g.1)
  · repeat (first | refine hJ _ _ _ _ ?_ | refine And.intro (by omega) (fun _ => ?_) | refine And.intro (by omega) ?_ | refine And.intro (fun _ => ?_) (by omega))
    refine s_Po_dotProduct H p1 p2 a1 a2 b1 b2 ?_
    repeat (first | refine hJ _ _ _ _ ?_ | refine And.intro (by omega) (fun _ => ?_) | refine And.intro (by omega) ?_ | refine And.intro (fun _ => ?_) (by omega))
    refine And.intro (fun hc2 => ?_) (fun hc2 => ?_)
    · repeat (first | refine hJ _ _ _ _ ?_ | refine And.intro (by omega) (fun _ => ?_) | refine And.intro (by omega) ?_ | refine And.intro (fun _ => ?_) (by omega))
      exact h0 (fun g => by omega)
    · repeat (first | refine hJ _ _ _ _ ?_ | refine And.intro (by omega) (fun _ => ?_) | refine And.intro (by omega) ?_ | refine And.intro (fun _ => ?_) (by omega))
      exact h1 ⟨hc, hc2⟩
theorem s_Po_hand {E : AE} {l : Launch} {h : AH} (H : pd_ok h) {a b p : Int} (a1 : 0 ≤ a) (a2 : a < 61) (b1 : 0 ≤ b) (b2 : b < 61) (p1 : 0 ≤ p) (p2 : p < 61) {Q : AR} (hQ : Q (some (.inl (sg (ge_x (pd_p h a) (pd_p h b) (pd_p h p))))) h) : am_g E l 51 [.inr (.inr 1), .inl a, .inl b, .inl p] h Q := by
  rcases sg_v (ge_x (pd_p h a) (pd_p h b) (pd_p h p)) with ⟨g, e⟩ | ⟨g, e⟩ | ⟨g, e⟩ <;> rw [e] at hQ <;> exact s_Po_handOf H a1 a2 b1 b2 p1 p2 (fun g' => by first | exact hQ | (exfalso; omega)) (fun g' => by first | exact hQ | (exfalso; omega)) (fun g' => by first | exact hQ | (exfalso; omega))
set_option maxRecDepth 20000 in
set_option maxHeartbeats 2000000 in
theorem s_Po_segmentsMeet {E : AE} {l : Launch} {h : AH} (H : pd_ok h) {a b c d : Int} (a1 : 0 ≤ a) (a2 : a < 61) (b1 : 0 ≤ b) (b2 : b < 61) (c1 : 0 ≤ c) (c2 : c < 61) (d1 : 0 ≤ d) (d2 : d < 61) {Q : AR} (h1 : ge_sh (pd_p h a) (pd_p h b) (pd_p h c) (pd_p h d) → Q (some (.inl 1)) h) (h0 : ¬ ge_sh (pd_p h a) (pd_p h b) (pd_p h c) (pd_p h d) → Q (some (.inl 0)) h) : am_g E l 62 [.inr (.inr 1), .inl a, .inl b, .inl c, .inl d] h Q := by
  rw [← ge_sm_iff] at h1 h0
  have sb1 := sg_b (ge_x (pd_p h a) (pd_p h b) (pd_p h c)) (ge_x (pd_p h a) (pd_p h b) (pd_p h d))
  have sb2 := sg_b (ge_x (pd_p h c) (pd_p h d) (pd_p h a)) (ge_x (pd_p h c) (pd_p h d) (pd_p h b))
  refine am_met T_Po_segmentsMeet (by decide) (Nat.le_of_ble_eq_true rfl) (fun J hJ => ?_)
  have tail : ∀ x y, ¬ (sg (ge_x (pd_p h a) (pd_p h b) (pd_p h c)) * sg (ge_x (pd_p h a) (pd_p h b) (pd_p h d)) < 0 ∧ sg (ge_x (pd_p h c) (pd_p h d) (pd_p h a)) * sg (ge_x (pd_p h c) (pd_p h d) (pd_p h b)) < 0) → J 63 [some (.inr (.inr 1)), some (.inl a), some (.inl b), some (.inl c), some (.inl d), x, y] [] h := by
    intro x y hn
    repeat (first | refine hJ _ _ _ _ ?_ | refine And.intro (by omega) (fun _ => ?_) | refine And.intro (by omega) ?_ | refine And.intro (fun _ => ?_) (by omega))
    refine s_Po_isOnSegment H a1 a2 b1 b2 c1 c2 (fun g => ?_) (fun g1 => ?_)
    · repeat (first | refine hJ _ _ _ _ ?_ | refine And.intro (by omega) (fun _ => ?_) | refine And.intro (by omega) ?_ | refine And.intro (fun _ => ?_) (by omega))
      exact h1 (.inr (.inl g))
    · repeat (first | refine hJ _ _ _ _ ?_ | refine And.intro (by omega) (fun _ => ?_) | refine And.intro (by omega) ?_ | refine And.intro (fun _ => ?_) (by omega))
      refine s_Po_isOnSegment H a1 a2 b1 b2 d1 d2 (fun g => ?_) (fun g2 => ?_)
      · repeat (first | refine hJ _ _ _ _ ?_ | refine And.intro (by omega) (fun _ => ?_) | refine And.intro (by omega) ?_ | refine And.intro (fun _ => ?_) (by omega))
        exact h1 (.inr (.inr (.inl g)))
      · repeat (first | refine hJ _ _ _ _ ?_ | refine And.intro (by omega) (fun _ => ?_) | refine And.intro (by omega) ?_ | refine And.intro (fun _ => ?_) (by omega))
        refine s_Po_isOnSegment H c1 c2 d1 d2 a1 a2 (fun g => ?_) (fun g3 => ?_)
        · repeat (first | refine hJ _ _ _ _ ?_ | refine And.intro (by omega) (fun _ => ?_) | refine And.intro (by omega) ?_ | refine And.intro (fun _ => ?_) (by omega))
          exact h1 (.inr (.inr (.inr (.inl g))))
        · repeat (first | refine hJ _ _ _ _ ?_ | refine And.intro (by omega) (fun _ => ?_) | refine And.intro (by omega) ?_ | refine And.intro (fun _ => ?_) (by omega))
          refine s_Po_isOnSegment H c1 c2 d1 d2 b1 b2 (fun g => ?_) (fun g4 => ?_)
          · repeat (first | refine hJ _ _ _ _ ?_ | refine And.intro (by omega) (fun _ => ?_) | refine And.intro (by omega) ?_ | refine And.intro (fun _ => ?_) (by omega))
            exact h1 (.inr (.inr (.inr (.inr g))))
          · repeat (first | refine hJ _ _ _ _ ?_ | refine And.intro (by omega) (fun _ => ?_) | refine And.intro (by omega) ?_ | refine And.intro (fun _ => ?_) (by omega))
            exact h0 (fun g => g.elim hn (fun g => g.elim g1 (fun g => g.elim g2 (fun g => g.elim g3 g4))))
  repeat (first | refine hJ _ _ _ _ ?_ | refine And.intro (by omega) (fun _ => ?_) | refine And.intro (by omega) ?_ | refine And.intro (fun _ => ?_) (by omega))
  refine s_Po_hand H a1 a2 b1 b2 c1 c2 ?_
  repeat (first | refine hJ _ _ _ _ ?_ | refine And.intro (by omega) (fun _ => ?_) | refine And.intro (by omega) ?_ | refine And.intro (fun _ => ?_) (by omega))
  refine s_Po_hand H a1 a2 b1 b2 d1 d2 ?_
  repeat (first | refine hJ _ _ _ _ ?_ | refine And.intro (by omega) (fun _ => ?_) | refine And.intro (by omega) ?_ | refine And.intro (fun _ => ?_) (by omega))
  refine And.intro (fun hc => ?_) (fun hc => ?_)
  · repeat (first | refine hJ _ _ _ _ ?_ | refine And.intro (by omega) (fun _ => ?_) | refine And.intro (by omega) ?_ | refine And.intro (fun _ => ?_) (by omega))
    refine s_Po_hand H c1 c2 d1 d2 a1 a2 ?_
    repeat (first | refine hJ _ _ _ _ ?_ | refine And.intro (by omega) (fun _ => ?_) | refine And.intro (by omega) ?_ | refine And.intro (fun _ => ?_) (by omega))
    refine s_Po_hand H c1 c2 d1 d2 b1 b2 ?_
    repeat (first | refine hJ _ _ _ _ ?_ | refine And.intro (by omega) (fun _ => ?_) | refine And.intro (by omega) ?_ | refine And.intro (fun _ => ?_) (by omega))
    refine And.intro (fun hc2 => ?_) (fun hc2 => ?_)
    · repeat (first | exact tail _ _ (fun g => by omega) | refine hJ _ _ _ _ ?_ | refine And.intro (by omega) (fun _ => ?_) | refine And.intro (by omega) ?_ | refine And.intro (fun _ => ?_) (by omega))
    · repeat (first | exact tail _ _ (fun g => by omega) | refine hJ _ _ _ _ ?_ | refine And.intro (by omega) (fun _ => ?_) | refine And.intro (by omega) ?_ | refine And.intro (fun _ => ?_) (by omega))
  · repeat (first | refine hJ _ _ _ _ ?_ | refine And.intro (by omega) (fun _ => ?_) | refine And.intro (by omega) ?_ | refine And.intro (fun _ => ?_) (by omega))
    refine s_Po_hand H c1 c2 d1 d2 a1 a2 ?_
    repeat (first | refine hJ _ _ _ _ ?_ | refine And.intro (by omega) (fun _ => ?_) | refine And.intro (by omega) ?_ | refine And.intro (fun _ => ?_) (by omega))
    refine s_Po_hand H c1 c2 d1 d2 b1 b2 ?_
    repeat (first | refine hJ _ _ _ _ ?_ | refine And.intro (by omega) (fun _ => ?_) | refine And.intro (by omega) ?_ | refine And.intro (fun _ => ?_) (by omega))
    refine And.intro (fun hc2 => ?_) (fun hc2 => ?_)
    · repeat (first | exact tail _ _ (fun g => by omega) | refine hJ _ _ _ _ ?_ | refine And.intro (by omega) (fun _ => ?_) | refine And.intro (by omega) ?_ | refine And.intro (fun _ => ?_) (by omega))
    · repeat (first | refine hJ _ _ _ _ ?_ | refine And.intro (by omega) (fun _ => ?_) | refine And.intro (by omega) ?_ | refine And.intro (fun _ => ?_) (by omega))
      exact h1 (.inl ⟨hc, hc2⟩)
/-- seen from p along the growing x -/
abbrev ge_see (p a b : ge_P) : Prop := (a.2 ≤ p.2 ∧ p.2 < b.2 ∧ 0 < ge_x a b p) ∨ (b.2 ≤ p.2 ∧ p.2 < a.2 ∧ ge_x a b p < 0)
set_option maxRecDepth 20000 in
set_option maxHeartbeats 2000000 in
theorem s_Po_isSeenFrom {E : AE} {l : Launch} {h : AH} (H : pd_ok h) {p a b : Int} (p1 : 0 ≤ p) (p2 : p < 61) (a1 : 0 ≤ a) (a2 : a < 61) (b1 : 0 ≤ b) (b2 : b < 61) {Q : AR} (h1 : ge_see (pd_p h p) (pd_p h a) (pd_p h b) → Q (some (.inl 1)) h) (h0 : ¬ ge_see (pd_p h p) (pd_p h a) (pd_p h b) → Q (some (.inl 0)) h) : am_g E l 73 [.inr (.inr 1), .inl p, .inl a, .inl b] h Q := by
  have ra := pd_ok_i H a1 a2
  have rb := pd_ok_i H b1 b2
  have rp := pd_ok_i H p1 p2
  have e : ge_see (pd_p h p) (pd_p h a) (pd_p h b) ↔ ((h 3 a.toNat ≤ h 3 p.toNat ∧ h 3 p.toNat < h 3 b.toNat ∧ 0 < ge_x (pd_p h a) (pd_p h b) (pd_p h p)) ∨ (h 3 b.toNat ≤ h 3 p.toNat ∧ h 3 p.toNat < h 3 a.toNat ∧ ge_x (pd_p h a) (pd_p h b) (pd_p h p) < 0)) := Iff.rfl
  rw [e] at h1 h0
  refine am_met T_Po_isSeenFrom (by decide) (Nat.le_of_ble_eq_true rfl) (fun J hJ => ?_)
  repeat (first | refine hJ _ _ _ _ ?_ | refine And.intro (by omega) (fun _ => ?_) | refine And.intro (by omega) ?_ | refine And.intro (fun _ => ?_) (by omega))
  refine And.intro (fun hc => ?_) (fun hc => ?_)
  · repeat (first | refine hJ _ _ _ _ ?_ | refine And.intro (by omega) (fun _ => ?_) | refine And.intro (by omega) ?_ | refine And.intro (fun _ => ?_) (by omega))
    refine And.intro (fun hd => ?_) (fun hd => ?_)
    · repeat (first | refine hJ _ _ _ _ ?_ | refine And.intro (by omega) (fun _ => ?_) | refine And.intro (by omega) ?_ | refine And.intro (fun _ => ?_) (by omega))
      exact h0 (by omega)
    · repeat (first | refine hJ _ _ _ _ ?_ | refine And.intro (by omega) (fun _ => ?_) | refine And.intro (by omega) ?_ | refine And.intro (fun _ => ?_) (by omega))
      refine s_Po_handOf H a1 a2 b1 b2 p1 p2 (fun g => ?_) (fun g => ?_) (fun g => ?_)
      · repeat (first | refine hJ _ _ _ _ ?_ | refine And.intro (by omega) (fun _ => ?_) | refine And.intro (by omega) ?_ | refine And.intro (fun _ => ?_) (by omega))
        exact h1 (by omega)
      · repeat (first | refine hJ _ _ _ _ ?_ | refine And.intro (by omega) (fun _ => ?_) | refine And.intro (by omega) ?_ | refine And.intro (fun _ => ?_) (by omega))
        exact h0 (by omega)
      · repeat (first | refine hJ _ _ _ _ ?_ | refine And.intro (by omega) (fun _ => ?_) | refine And.intro (by omega) ?_ | refine And.intro (fun _ => ?_) (by omega))
        exact h0 (by omega)
  · repeat (first | refine hJ _ _ _ _ ?_ | refine And.intro (by omega) (fun _ => ?_) | refine And.intro (by omega) ?_ | refine And.intro (fun _ => ?_) (by omega))
    refine And.intro (fun hd => ?_) (fun hd => ?_)
    · repeat (first | refine hJ _ _ _ _ ?_ | refine And.intro (by omega) (fun _ => ?_) | refine And.intro (by omega) ?_ | refine And.intro (fun _ => ?_) (by omega))
      refine s_Po_handOf H a1 a2 b1 b2 p1 p2 (fun g => ?_) (fun g => ?_) (fun g => ?_)
      · repeat (first | refine hJ _ _ _ _ ?_ | refine And.intro (by omega) (fun _ => ?_) | refine And.intro (by omega) ?_ | refine And.intro (fun _ => ?_) (by omega))
        exact h0 (by omega)
      · repeat (first | refine hJ _ _ _ _ ?_ | refine And.intro (by omega) (fun _ => ?_) | refine And.intro (by omega) ?_ | refine And.intro (fun _ => ?_) (by omega))
        exact h0 (by omega)
      · repeat (first | refine hJ _ _ _ _ ?_ | refine And.intro (by omega) (fun _ => ?_) | refine And.intro (by omega) ?_ | refine And.intro (fun _ => ?_) (by omega))
        exact h1 (by omega)
    · repeat (first | refine hJ _ _ _ _ ?_ | refine And.intro (by omega) (fun _ => ?_) | refine And.intro (by omega) ?_ | refine And.intro (fun _ => ?_) (by omega))
      exact h0 (by omega)
set_option maxRecDepth 20000 in
set_option maxHeartbeats 2000000 in
theorem s_Po_pairs {E : AE} {l : Launch} {h : AH} (H : pd_ok h) {n : Nat} (hn : h 1 2 = (n : Int)) (hn2 : n ≤ 60) {Q : AR} (hQ : Q (some (.inl (su (fun i => su (pa (pd_q h) i) (i + 1) n) 0 n))) h) : am_g E l 24 [.inr (.inr 1)] h Q := by
  refine am_met T_Po_pairsAtOnePlace (by decide) (Nat.le_of_ble_eq_true rfl) (fun J hJ => ?_)
  have outer : ∀ d p : Nat, ∀ (acc : Int) (x : Option AV), p + d = n → acc = su (fun i => su (pa (pd_q h) i) (i + 1) n) 0 p → J 4 [some (.inr (.inr 1)), some (.inl acc), some (.inl (p : Int)), x] [] h := by
    intro d
    induction d with
    | zero =>
      intro p acc x hp ha
      repeat (first | refine hJ _ _ _ _ ?_ | refine And.intro (by omega) (fun _ => ?_) | refine And.intro (by omega) ?_ | refine And.intro (fun _ => ?_) (by omega))
      have : p = n := by omega
      subst this
      rw [ha]
      exact hQ
    | succ d oih =>
      intro p acc x hp ha
      have inner : ∀ e q : Nat, ∀ acc : Int, q + e = n → p + 1 ≤ q → acc = su (fun i => su (pa (pd_q h) i) (i + 1) n) 0 p + su (pa (pd_q h) p) (p + 1) q → J 16 [some (.inr (.inr 1)), some (.inl acc), some (.inl (p : Int)), some (.inl (q : Int))] [] h := by
        intro e
        induction e with
        | zero =>
          intro q acc hq hpq ha
          have : q = n := by omega
          subst this
          repeat (first | exact oih (p + 1) _ _ (by omega) (by rw [su_s (by omega)]; exact ha) | refine hJ _ _ _ _ ?_ | refine And.intro (by omega) (fun _ => ?_) | refine And.intro (by omega) ?_ | refine And.intro (fun _ => ?_) (by omega))
        | succ e ih =>
          intro q acc hq hpq ha
          repeat (first | refine hJ _ _ _ _ ?_ | refine And.intro (by omega) (fun _ => ?_) | refine And.intro (by omega) ?_ | refine And.intro (fun _ => ?_) (by omega))
          refine s_Po_areAtOnePlace H (by omega) (by omega) (by omega) (by omega) (fun hs => ?_) (fun hs => ?_)
          · have e1 : pa (pd_q h) p q = 1 := if_pos hs
            repeat (first | exact ih (q + 1) _ (by omega) (by omega) (by rw [su_s hpq]; omega) | refine hJ _ _ _ _ ?_ | refine And.intro (by omega) (fun _ => ?_) | refine And.intro (by omega) ?_ | refine And.intro (fun _ => ?_) (by omega))
          · have e1 : pa (pd_q h) p q = 0 := if_neg hs
            repeat (first | exact ih (q + 1) _ (by omega) (by omega) (by rw [su_s hpq]; omega) | refine hJ _ _ _ _ ?_ | refine And.intro (by omega) (fun _ => ?_) | refine And.intro (by omega) ?_ | refine And.intro (fun _ => ?_) (by omega))
      repeat (first | exact inner (n - (p + 1)) (p + 1) _ (by omega) (by omega) (by rw [su_0 (Nat.le_refl (p + 1))]; omega) | refine hJ _ _ _ _ ?_ | refine And.intro (by omega) (fun _ => ?_) | refine And.intro (by omega) ?_ | refine And.intro (fun _ => ?_) (by omega))
  repeat (first | exact outer n 0 _ _ (by omega) (by rw [su_0 (by omega)]) | refine hJ _ _ _ _ ?_ | refine And.intro (by omega) (fun _ => ?_) | refine And.intro (by omega) ?_ | refine And.intro (fun _ => ?_) (by omega))
def tl (pt : Nat → ge_P) (i k m : Nat) : Int := if ge_x (pt i) (pt k) (pt m) = 0 then 1 else 0
theorem tl_b (pt : Nat → ge_P) (i k m : Nat) : 0 ≤ tl pt i k m ∧ tl pt i k m ≤ 1 := by
  unfold tl
  split <;> omega
set_option maxRecDepth 20000 in
set_option maxHeartbeats 2000000 in
theorem s_Po_threes {E : AE} {l : Launch} {h : AH} (H : pd_ok h) {n : Nat} (hn : h 1 2 = (n : Int)) (hn2 : n ≤ 60) {Q : AR} (hQ : Q (some (.inl (su (fun i => su (fun k => su (tl (pd_q h) i k) (k + 1) n) (i + 1) n) 0 n))) h) : am_g E l 25 [.inr (.inr 1)] h Q := by
  refine am_met T_Po_threesOnOneLine (by decide) (Nat.le_of_ble_eq_true rfl) (fun J hJ => ?_)
  have outer : ∀ d p : Nat, ∀ (acc : Int) (x y : Option AV), p + d = n → acc = su (fun i => su (fun k => su (tl (pd_q h) i k) (k + 1) n) (i + 1) n) 0 p → J 4 [some (.inr (.inr 1)), some (.inl acc), some (.inl (p : Int)), x, y] [] h := by
    intro d
    induction d with
    | zero =>
      intro p acc x y hp ha
      repeat (first | refine hJ _ _ _ _ ?_ | refine And.intro (by omega) (fun _ => ?_) | refine And.intro (by omega) ?_ | refine And.intro (fun _ => ?_) (by omega))
      have : p = n := by omega
      subst this
      rw [ha]
      exact hQ
    | succ d oih =>
      intro p acc x y hp ha
      have mid : ∀ e q : Nat, ∀ (acc : Int) (y : Option AV), q + e = n → p + 1 ≤ q → acc = su (fun i => su (fun k => su (tl (pd_q h) i k) (k + 1) n) (i + 1) n) 0 p + su (fun k => su (tl (pd_q h) p k) (k + 1) n) (p + 1) q → J 16 [some (.inr (.inr 1)), some (.inl acc), some (.inl (p : Int)), some (.inl (q : Int)), y] [] h := by
        intro e
        induction e with
        | zero =>
          intro q acc y hq hpq ha
          have : q = n := by omega
          subst this
          repeat (first | exact oih (p + 1) _ _ _ (by omega) (by rw [su_s (by omega)]; exact ha) | refine hJ _ _ _ _ ?_ | refine And.intro (by omega) (fun _ => ?_) | refine And.intro (by omega) ?_ | refine And.intro (fun _ => ?_) (by omega))
        | succ e mih =>
          intro q acc y hq hpq ha
          have inner : ∀ f r : Nat, ∀ acc : Int, r + f = n → q + 1 ≤ r → acc = su (fun i => su (fun k => su (tl (pd_q h) i k) (k + 1) n) (i + 1) n) 0 p + su (fun k => su (tl (pd_q h) p k) (k + 1) n) (p + 1) q + su (tl (pd_q h) p q) (q + 1) r → J 29 [some (.inr (.inr 1)), some (.inl acc), some (.inl (p : Int)), some (.inl (q : Int)), some (.inl (r : Int))] [] h := by
            intro f
            induction f with
            | zero =>
              intro r acc hr hqr ha
              have : r = n := by omega
              subst this
              repeat (first | exact mih (q + 1) _ _ (by omega) (by omega) (by rw [su_s hpq]; omega) | refine hJ _ _ _ _ ?_ | refine And.intro (by omega) (fun _ => ?_) | refine And.intro (by omega) ?_ | refine And.intro (fun _ => ?_) (by omega))
            | succ f ih =>
              intro r acc hr hqr ha
              have hb := pd_x_b H (a := (p : Int)) (b := (q : Int)) (p := (r : Int)) (by omega) (by omega) (by omega) (by omega) (by omega) (by omega)
              repeat (first | refine hJ _ _ _ _ ?_ | refine And.intro (by omega) (fun _ => ?_) | refine And.intro (by omega) ?_ | refine And.intro (fun _ => ?_) (by omega))
              refine s_Po_crossProduct H (by omega) (by omega) (by omega) (by omega) (by omega) (by omega) ?_
              repeat (first | refine hJ _ _ _ _ ?_ | refine And.intro (by omega) (fun _ => ?_) | refine And.intro (by omega) ?_ | refine And.intro (fun _ => ?_) (by omega))
              refine And.intro (fun hs => ?_) (fun hs => ?_)
              · have e1 : tl (pd_q h) p q r = 0 := if_neg hs
                repeat (first | exact ih (r + 1) _ (by omega) (by omega) (by rw [su_s hqr]; omega) | refine hJ _ _ _ _ ?_ | refine And.intro (by omega) (fun _ => ?_) | refine And.intro (by omega) ?_ | refine And.intro (fun _ => ?_) (by omega))
              · have e1 : tl (pd_q h) p q r = 1 := if_pos hs
                repeat (first | exact ih (r + 1) _ (by omega) (by omega) (by rw [su_s hqr]; omega) | refine hJ _ _ _ _ ?_ | refine And.intro (by omega) (fun _ => ?_) | refine And.intro (by omega) ?_ | refine And.intro (fun _ => ?_) (by omega))
          repeat (first | exact inner (n - (q + 1)) (q + 1) _ (by omega) (by omega) (by rw [su_0 (Nat.le_refl (q + 1))]; omega) | refine hJ _ _ _ _ ?_ | refine And.intro (by omega) (fun _ => ?_) | refine And.intro (by omega) ?_ | refine And.intro (fun _ => ?_) (by omega))
      repeat (first | exact mid (n - (p + 1)) (p + 1) _ _ (by omega) (by omega) (by rw [su_0 (Nat.le_refl (p + 1))]; omega) | refine hJ _ _ _ _ ?_ | refine And.intro (by omega) (fun _ => ?_) | refine And.intro (by omega) ?_ | refine And.intro (fun _ => ?_) (by omega))
  repeat (first | exact outer n 0 _ _ _ (by omega) (by rw [su_0 (by omega)]) | refine hJ _ _ _ _ ?_ | refine And.intro (by omega) (fun _ => ?_) | refine And.intro (by omega) ?_ | refine And.intro (fun _ => ?_) (by omega))
