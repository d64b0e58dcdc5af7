/-! the reference: points and hulls -/
/-- the reference's points -/
def mp (h : AH) (n : Nat) (pt : Nat → ge_P) : Prop := h 24 3 = (n : Int) ∧ n ≤ 60 ∧ (∀ i, i < n → h 25 i = (pt i).1 ∧ h 26 i = (pt i).2) ∧ ∀ i, i < n → -100000 ≤ (pt i).1 ∧ (pt i).1 ≤ 100000 ∧ -100000 ≤ (pt i).2 ∧ (pt i).2 ≤ 100000
theorem mp_i {h : AH} {n : Nat} {pt : Nat → ge_P} (P : mp h n pt) {i : Int} (h1 : 0 ≤ i) (h2 : i < n) : h 25 i.toNat = (pt i.toNat).1 ∧ h 26 i.toNat = (pt i.toNat).2 ∧ -100000 ≤ (pt i.toNat).1 ∧ (pt i.toNat).1 ≤ 100000 ∧ -100000 ≤ (pt i.toNat).2 ∧ (pt i.toNat).2 ≤ 100000 := by
  obtain ⟨-, -, p1, p2⟩ := P
  have a := p1 i.toNat (by omega)
  have b := p2 i.toNat (by omega)
  exact ⟨a.1, a.2, b⟩
theorem hu_d_symm (a b : ge_P) : hu_d a b = hu_d b a := by unfold hu_d; grind
/-- the products of places that are not far -/
theorem mp_x {a b c : ge_P} (ha : -100000 ≤ a.1 ∧ a.1 ≤ 100000 ∧ -100000 ≤ a.2 ∧ a.2 ≤ 100000) (hb : -100000 ≤ b.1 ∧ b.1 ≤ 100000 ∧ -100000 ≤ b.2 ∧ b.2 ≤ 100000) (hc : -100000 ≤ c.1 ∧ c.1 ≤ 100000 ∧ -100000 ≤ c.2 ∧ c.2 ≤ 100000) : -80000000000 ≤ ge_x a b c ∧ ge_x a b c ≤ 80000000000 := by
  have m1 := pd_mul hb.1 hb.2.1 ha.1 ha.2.1 hc.2.2.1 hc.2.2.2 ha.2.2.1 ha.2.2.2
  have m2 := pd_mul hb.2.2.1 hb.2.2.2 ha.2.2.1 ha.2.2.2 hc.1 hc.2.1 ha.1 ha.2.1
  unfold ge_x
  omega
theorem mp_dot {a b c : ge_P} (ha : -100000 ≤ a.1 ∧ a.1 ≤ 100000 ∧ -100000 ≤ a.2 ∧ a.2 ≤ 100000) (hb : -100000 ≤ b.1 ∧ b.1 ≤ 100000 ∧ -100000 ≤ b.2 ∧ b.2 ≤ 100000) (hc : -100000 ≤ c.1 ∧ c.1 ≤ 100000 ∧ -100000 ≤ c.2 ∧ c.2 ≤ 100000) : -80000000000 ≤ ge_dot a b c ∧ ge_dot a b c ≤ 80000000000 := by
  have m1 := pd_mul hb.1 hb.2.1 ha.1 ha.2.1 hc.1 hc.2.1 ha.1 ha.2.1
  have m2 := pd_mul hb.2.2.1 hb.2.2.2 ha.2.2.1 ha.2.2.2 hc.2.2.1 hc.2.2.2 ha.2.2.1 ha.2.2.2
  unfold ge_dot
  omega
theorem mp_d {a b : ge_P} (ha : -100000 ≤ a.1 ∧ a.1 ≤ 100000 ∧ -100000 ≤ a.2 ∧ a.2 ≤ 100000) (hb : -100000 ≤ b.1 ∧ b.1 ≤ 100000 ∧ -100000 ≤ b.2 ∧ b.2 ≤ 100000) : 0 ≤ hu_d a b ∧ hu_d a b ≤ 80000000000 := by
  have e : hu_d a b = ge_dot a b b := rfl
  have := mp_dot ha hb hb
  have q1 := hu_sq (b.1 - a.1)
  have q2 := hu_sq (b.2 - a.2)
  refine ⟨?_, by omega⟩
  unfold hu_d
  omega
set_option maxRecDepth 20000 in
set_option maxHeartbeats 2000000 in
theorem s_Mo_c {E : AE} {l : Launch} {h : AH} {n : Nat} {pt : Nat → ge_P} (P : mp h n pt) {a b x y : Int} (a1 : 0 ≤ a) (a2 : a < n) (b1 : 0 ≤ b) (b2 : b < n) (hx : pd_in x y) {Q : AR} (hQ : Q (some (.inr (.inl (ge_x (pt a.toNat) (pt b.toNat) (x, y))))) h) : am_g E l 95 [.inr (.inr 24), .inl a, .inl b, .inl x, .inl y] h Q := by
  have ra := mp_i P a1 a2
  have rb := mp_i P b1 b2
  have n60 := P.2.1
  unfold pd_in at hx
  refine am_met T_Mo_c (by decide) (Nat.le_of_ble_eq_true rfl) (fun J hJ => ?_)
  repeat (first | refine hJ _ _ _ _ ?_ | refine And.intro (by omega) (fun _ => ?_) | refine And.intro (by omega) ?_ | refine And.intro (fun _ => ?_) (by omega))
  rw [ra.1, ra.2.1, rb.1, rb.2.1]
  exact hQ
set_option maxRecDepth 20000 in
set_option maxHeartbeats 2000000 in
theorem s_Mo_turnOf {E : AE} {l : Launch} {h : AH} {n : Nat} {pt : Nat → ge_P} (P : mp h n pt) {a b p : Int} (a1 : 0 ≤ a) (a2 : a < n) (b1 : 0 ≤ b) (b2 : b < n) (p1 : 0 ≤ p) (p2 : p < n) {Q : AR} (hQ : Q (some (.inr (.inl (ge_x (pt a.toNat) (pt b.toNat) (pt p.toNat))))) h) : am_g E l 96 [.inr (.inr 24), .inl a, .inl b, .inl p] h Q := by
  have rp := mp_i P p1 p2
  have n60 := P.2.1
  refine am_met T_Mo_turnOf (by decide) (Nat.le_of_ble_eq_true rfl) (fun J hJ => ?_)
  repeat (first | refine hJ _ _ _ _ ?_ | refine And.intro (by omega) (fun _ => ?_) | refine And.intro (by omega) ?_ | refine And.intro (fun _ => ?_) (by omega))
  refine s_Mo_c P a1 a2 b1 b2 (by unfold pd_in; omega) ?_
  rw [rp.1, rp.2.1]
  repeat (first | refine hJ _ _ _ _ ?_ | refine And.intro (by omega) (fun _ => ?_) | refine And.intro (by omega) ?_ | refine And.intro (fun _ => ?_) (by omega))
  exact hQ
set_option maxRecDepth 20000 in
set_option maxHeartbeats 2000000 in
theorem s_Mo_farOf {E : AE} {l : Launch} {h : AH} {n : Nat} {pt : Nat → ge_P} (P : mp h n pt) {a x y : Int} (a1 : 0 ≤ a) (a2 : a < n) (hx : pd_in x y) {Q : AR} (hQ : Q (some (.inr (.inl (hu_d (x, y) (pt a.toNat))))) h) : am_g E l 97 [.inr (.inr 24), .inl a, .inl x, .inl y] h Q := by
  have ra := mp_i P a1 a2
  have n60 := P.2.1
  unfold pd_in at hx
  refine am_met T_Mo_farOf (by decide) (Nat.le_of_ble_eq_true rfl) (fun J hJ => ?_)
  repeat (first | refine hJ _ _ _ _ ?_ | refine And.intro (by omega) (fun _ => ?_) | refine And.intro (by omega) ?_ | refine And.intro (fun _ => ?_) (by omega))
  rw [ra.1, ra.2.1]
  exact hQ
theorem s_Mo_far {E : AE} {l : Launch} {h : AH} {n : Nat} {pt : Nat → ge_P} (P : mp h n pt) {a k : Int} (a1 : 0 ≤ a) (a2 : a < n) (k1 : 0 ≤ k) (k2 : k < n) {Q : AR} (hQ : Q (some (.inr (.inl (hu_d (pt a.toNat) (pt k.toNat))))) h) : am_g E l 97 [.inr (.inr 24), .inl a, .inl (h 25 k.toNat), .inl (h 26 k.toNat)] h Q := by
  have rk := mp_i P k1 k2
  refine s_Mo_farOf P a1 a2 (by unfold pd_in; omega) ?_
  rw [rk.1, rk.2.1]
  rw [hu_d_symm] at hQ
  exact hQ
set_option maxRecDepth 20000 in
set_option maxHeartbeats 2000000 in
theorem s_Mo_isSame {E : AE} {l : Launch} {h : AH} {n : Nat} {pt : Nat → ge_P} (P : mp h n pt) {a b : Int} (a1 : 0 ≤ a) (a2 : a < n) (b1 : 0 ≤ b) (b2 : b < n) {Q : AR} (h1 : pt a.toNat = pt b.toNat → Q (some (.inl 1)) h) (h0 : pt a.toNat ≠ pt b.toNat → Q (some (.inl 0)) h) : am_g E l 98 [.inr (.inr 24), .inl a, .inl b] h Q := by
  have ra := mp_i P a1 a2
  have rb := mp_i P b1 b2
  have n60 := P.2.1
  refine am_met T_Mo_isSame (by decide) (Nat.le_of_ble_eq_true rfl) (fun J hJ => ?_)
  repeat (first | refine hJ _ _ _ _ ?_ | refine And.intro (by omega) (fun _ => ?_) | refine And.intro (by omega) ?_ | refine And.intro (fun _ => ?_) (by omega))
  refine And.intro (fun hc => ?_) (fun hc => ?_)
  · repeat (first | refine hJ _ _ _ _ ?_ | refine And.intro (by omega) (fun _ => ?_) | refine And.intro (by omega) ?_ | refine And.intro (fun _ => ?_) (by omega))
    exact h0 (fun z => hc (by rw [ra.1, rb.1, z]))
  · repeat (first | refine hJ _ _ _ _ ?_ | refine And.intro (by omega) (fun _ => ?_) | refine And.intro (by omega) ?_ | refine And.intro (fun _ => ?_) (by omega))
    refine And.intro (fun hd => ?_) (fun hd => ?_)
    · repeat (first | refine hJ _ _ _ _ ?_ | refine And.intro (by omega) (fun _ => ?_) | refine And.intro (by omega) ?_ | refine And.intro (fun _ => ?_) (by omega))
      exact h0 (fun z => hd (by rw [ra.2.1, rb.2.1, z]))
    · repeat (first | refine hJ _ _ _ _ ?_ | refine And.intro (by omega) (fun _ => ?_) | refine And.intro (by omega) ?_ | refine And.intro (fun _ => ?_) (by omega))
      exact h1 (Prod.ext (by omega) (by omega))
set_option maxRecDepth 20000 in
set_option maxHeartbeats 2000000 in
theorem s_Mo_isAmong {E : AE} {l : Launch} {h : AH} {v a b : Int} (hv : -100000 ≤ v ∧ v ≤ 100000) (ha : -100000 ≤ a ∧ a ≤ 100000) (hb : -100000 ≤ b ∧ b ≤ 100000) {Q : AR} (h1 : ge_am v a b → Q (some (.inl 1)) h) (h0 : ¬ ge_am v a b → Q (some (.inl 0)) h) : am_g E l 99 [.inl v, .inl a, .inl b] h Q := by
  refine am_met T_Mo_isAmong (by decide) (Nat.le_of_ble_eq_true rfl) (fun J hJ => ?_)
  repeat (first | refine hJ _ _ _ _ ?_ | refine And.intro (by omega) (fun _ => ?_) | refine And.intro (by omega) ?_ | refine And.intro (fun _ => ?_) (by omega))
  refine And.intro (fun hc => ?_) (fun hc => ?_)
  · repeat (first | refine hJ _ _ _ _ ?_ | refine And.intro (by omega) (fun _ => ?_) | refine And.intro (by omega) ?_ | refine And.intro (fun _ => ?_) (by omega))
    refine And.intro (fun hd => ?_) (fun hd => ?_)
    · repeat (first | refine hJ _ _ _ _ ?_ | refine And.intro (by omega) (fun _ => ?_) | refine And.intro (by omega) ?_ | refine And.intro (fun _ => ?_) (by omega))
      exact h0 (by omega)
    · repeat (first | refine hJ _ _ _ _ ?_ | refine And.intro (by omega) (fun _ => ?_) | refine And.intro (by omega) ?_ | refine And.intro (fun _ => ?_) (by omega))
      exact h1 (by omega)
  · repeat (first | refine hJ _ _ _ _ ?_ | refine And.intro (by omega) (fun _ => ?_) | refine And.intro (by omega) ?_ | refine And.intro (fun _ => ?_) (by omega))
    refine And.intro (fun hd => ?_) (fun hd => ?_)
    · repeat (first | refine hJ _ _ _ _ ?_ | refine And.intro (by omega) (fun _ => ?_) | refine And.intro (by omega) ?_ | refine And.intro (fun _ => ?_) (by omega))
      exact h1 (by omega)
    · repeat (first | refine hJ _ _ _ _ ?_ | refine And.intro (by omega) (fun _ => ?_) | refine And.intro (by omega) ?_ | refine And.intro (fun _ => ?_) (by omega))
      refine And.intro (fun hf => ?_) (fun hf => ?_)
      · repeat (first | refine hJ _ _ _ _ ?_ | refine And.intro (by omega) (fun _ => ?_) | refine And.intro (by omega) ?_ | refine And.intro (fun _ => ?_) (by omega))
        exact h0 (by omega)
      · repeat (first | refine hJ _ _ _ _ ?_ | refine And.intro (by omega) (fun _ => ?_) | refine And.intro (by omega) ?_ | refine And.intro (fun _ => ?_) (by omega))
        exact h1 (by omega)
set_option maxRecDepth 20000 in
set_option maxHeartbeats 2000000 in
theorem s_Mo_isOn {E : AE} {l : Launch} {h : AH} {n : Nat} {pt : Nat → ge_P} (P : mp h n pt) {a b x y : Int} (a1 : 0 ≤ a) (a2 : a < n) (b1 : 0 ≤ b) (b2 : b < n) (hx : pd_in x y) {Q : AR} (h1 : ge_on (pt a.toNat) (pt b.toNat) (x, y) → Q (some (.inl 1)) h) (h0 : ¬ ge_on (pt a.toNat) (pt b.toNat) (x, y) → Q (some (.inl 0)) h) : am_g E l 100 [.inr (.inr 24), .inl a, .inl b, .inl x, .inl y] h Q := by
  have ra := mp_i P a1 a2
  have rb := mp_i P b1 b2
  have n60 := P.2.1
  have hx' := hx
  unfold pd_in at hx'
  have hb := mp_x (c := (x, y)) ra.2.2 rb.2.2 hx'
  refine am_met T_Mo_isOn (by decide) (Nat.le_of_ble_eq_true rfl) (fun J hJ => ?_)
  repeat (first | refine hJ _ _ _ _ ?_ | refine And.intro (by omega) (fun _ => ?_) | refine And.intro (by omega) ?_ | refine And.intro (fun _ => ?_) (by omega))
  refine s_Mo_c P a1 a2 b1 b2 hx ?_
  repeat (first | refine hJ _ _ _ _ ?_ | refine And.intro (by omega) (fun _ => ?_) | refine And.intro (by omega) ?_ | refine And.intro (fun _ => ?_) (by omega))
  refine And.intro (fun hc => ?_) (fun hc => ?_)
  · repeat (first | refine hJ _ _ _ _ ?_ | refine And.intro (by omega) (fun _ => ?_) | refine And.intro (by omega) ?_ | refine And.intro (fun _ => ?_) (by omega))
    exact h0 (fun g => hc g.1)
  · repeat (first | refine hJ _ _ _ _ ?_ | refine And.intro (by omega) (fun _ => ?_) | refine And.intro (by omega) ?_ | refine And.intro (fun _ => ?_) (by omega))
    rw [ra.1, rb.1]
    refine s_Mo_isAmong (by omega) (by omega) (by omega) (fun g1 => ?_) (fun g1 => ?_)
    · repeat (first | refine hJ _ _ _ _ ?_ | refine And.intro (by omega) (fun _ => ?_) | refine And.intro (by omega) ?_ | refine And.intro (fun _ => ?_) (by omega))
      rw [ra.2.1, rb.2.1]
      refine s_Mo_isAmong (by omega) (by omega) (by omega) (fun g2 => ?_) (fun g2 => ?_)
      · repeat (first | refine hJ _ _ _ _ ?_ | refine And.intro (by omega) (fun _ => ?_) | refine And.intro (by omega) ?_ | refine And.intro (fun _ => ?_) (by omega))
        exact h1 ⟨hc, g1, g2⟩
      · repeat (first | refine hJ _ _ _ _ ?_ | refine And.intro (by omega) (fun _ => ?_) | refine And.intro (by omega) ?_ | refine And.intro (fun _ => ?_) (by omega))
        exact h0 (fun g => g2 g.2.2)
    · repeat (first | refine hJ _ _ _ _ ?_ | refine And.intro (by omega) (fun _ => ?_) | refine And.intro (by omega) ?_ | refine And.intro (fun _ => ?_) (by omega))
      exact h0 (fun g => g1 g.2.1)
set_option maxRecDepth 20000 in
set_option maxHeartbeats 2000000 in
theorem s_Mo_next {E : AE} {l : Launch} {h : AH} {m : Nat} (hm : h 24 8 = (m : Int)) (m60 : m ≤ 60) {i : Nat} (hi : i < m) {Q : AR} (hQ : Q (some (.inl (nx m i : Int))) h) : am_g E l 101 [.inr (.inr 24), .inl (i : Int)] h Q := by
  refine am_met T_Mo_next (by decide) (Nat.le_of_ble_eq_true rfl) (fun J hJ => ?_)
  by_cases hx : i + 1 < m
  · rw [show nx m i = i + 1 from if_pos hx] at hQ
    repeat (first | refine hJ _ _ _ _ ?_ | refine And.intro (by omega) (fun _ => ?_) | refine And.intro (by omega) ?_ | refine And.intro (fun _ => ?_) (by omega))
    exact hQ
  · rw [show nx m i = 0 from if_neg hx] at hQ
    repeat (first | refine hJ _ _ _ _ ?_ | refine And.intro (by omega) (fun _ => ?_) | refine And.intro (by omega) ?_ | refine And.intro (fun _ => ?_) (by omega))
    exact hQ
/-- the reference's marks -/
def mm (h : AH) (n : Nat) (mk : Nat → Bool) : Prop := ∀ p, p < n → (mk p = true ∧ h 28 p = 1) ∨ (¬ mk p = true ∧ h 28 p = 0)
set_option maxRecDepth 20000 in
set_option maxHeartbeats 2000000 in
theorem s_Mo_follower {E : AE} {l : Launch} {h : AH} {n : Nat} {pt : Nat → ge_P} (P : mp h n pt) {mk : Nat → Bool} (hm : mm h n mk) {a : Int} (a1 : 0 ≤ a) (a2 : a < n) {Q : AR} (hQ : Q (some (.inl (hu_f pt mk (pt a.toNat) n))) h) : am_g E l 102 [.inr (.inr 24), .inl a] h Q := by
  have step1 : ∀ p : Nat, mk p = true → pt p ≠ pt a.toNat → (hu_f pt mk (pt a.toNat) p < 0 ∨ (ge_x (pt a.toNat) (pt (hu_f pt mk (pt a.toNat) p).toNat) (pt p) < 0 ∨ (ge_x (pt a.toNat) (pt (hu_f pt mk (pt a.toNat) p).toNat) (pt p) = 0 ∧ hu_d (pt a.toNat) (pt (hu_f pt mk (pt a.toNat) p).toNat) < hu_d (pt a.toNat) (pt p)))) → hu_f pt mk (pt a.toNat) (p + 1) = (p : Int) := fun p h1 h2 h3 => if_pos ⟨h1, h2, h3⟩
  have step0 : ∀ p : Nat, (¬ mk p = true ∨ pt p = pt a.toNat ∨ ¬ (hu_f pt mk (pt a.toNat) p < 0 ∨ (ge_x (pt a.toNat) (pt (hu_f pt mk (pt a.toNat) p).toNat) (pt p) < 0 ∨ (ge_x (pt a.toNat) (pt (hu_f pt mk (pt a.toNat) p).toNat) (pt p) = 0 ∧ hu_d (pt a.toNat) (pt (hu_f pt mk (pt a.toNat) p).toNat) < hu_d (pt a.toNat) (pt p))))) → hu_f pt mk (pt a.toNat) (p + 1) = hu_f pt mk (pt a.toNat) p := fun p h1 => if_neg (fun ⟨g1, g2, g3⟩ => h1.elim (fun g => g g1) (fun h => h.elim g2 (fun g => g g3)))
  have n60 := P.2.1
  have hn := P.1
  have ra := mp_i P a1 a2
  refine am_met T_Mo_follower (by decide) (Nat.le_of_ble_eq_true rfl) (fun J hJ => ?_)
  have loop : ∀ d k : Nat, ∀ (acc : Int) (x y z : Option AV), k + d = n → acc = hu_f pt mk (pt a.toNat) k → J 4 [some (.inr (.inr 24)), some (.inl a), some (.inl acc), some (.inl (k : Int)), x, y, z] [] h := by
    intro d
    induction d with
    | zero =>
      intro k acc x y z hk ha
      have : k = n := by omega
      subst this
      have hb := hu_f_b pt mk (pt a.toNat) k
      repeat (first | refine hJ _ _ _ _ ?_ | refine And.intro (by omega) (fun _ => ?_) | refine And.intro (by omega) ?_ | refine And.intro (fun _ => ?_) (by omega))
      rw [← ha] at hQ
      exact hQ
    | succ d ih =>
      intro k acc x y z hk ha
      have hb := hu_f_b pt mk (pt a.toNat) k
      have rk := mp_i P (i := (k : Int)) (by omega) (by omega)
      have s1 := step1 k
      have s0 := step0 k
      rw [← ha] at s1 s0 hb
      have hmk : (mk k = true ∧ h 28 (Int.toNat (k : Int)) = 1) ∨ (¬ mk k = true ∧ h 28 (Int.toNat (k : Int)) = 0) := hm k (by omega)
      rcases hmk with ⟨hmk, hv⟩ | ⟨hmk, hv⟩
      · repeat (first | refine hJ _ _ _ _ ?_ | refine And.intro (by omega) (fun _ => ?_) | refine And.intro (by omega) ?_ | refine And.intro (fun _ => ?_) (by omega))
        refine s_Mo_isSame P (by omega) (by omega) a1 a2 (fun hs => ?_) (fun hs => ?_)
        · repeat (first | exact ih (k + 1) _ _ _ _ (by omega) (s0 (.inr (.inl hs))).symm | refine hJ _ _ _ _ ?_ | refine And.intro (by omega) (fun _ => ?_) | refine And.intro (by omega) ?_ | refine And.intro (fun _ => ?_) (by omega))
        · repeat (first | refine hJ _ _ _ _ ?_ | refine And.intro (by omega) (fun _ => ?_) | refine And.intro (by omega) ?_ | refine And.intro (fun _ => ?_) (by omega))
          refine And.intro (fun ht => ?_) (fun ht => ?_)
          · have hbx := mp_x ra.2.2 (mp_i P ht (by omega)).2.2 rk.2.2
            have hd1 := mp_d ra.2.2 rk.2.2
            have hd2 := mp_d ra.2.2 (mp_i P ht (by omega)).2.2
            repeat (first | refine hJ _ _ _ _ ?_ | refine And.intro (by omega) (fun _ => ?_) | refine And.intro (by omega) ?_ | refine And.intro (fun _ => ?_) (by omega))
            refine s_Mo_turnOf P a1 a2 (by omega) (by omega) (by omega) (by omega) ?_
            repeat (first | refine hJ _ _ _ _ ?_ | refine And.intro (by omega) (fun _ => ?_) | refine And.intro (by omega) ?_ | refine And.intro (fun _ => ?_) (by omega))
            refine And.intro (fun hc => ?_) (fun hc => ?_)
            · repeat (first | exact ih (k + 1) _ _ _ _ (by omega) (s1 hmk hs (.inr (.inl hc))).symm | refine hJ _ _ _ _ ?_ | refine And.intro (by omega) (fun _ => ?_) | refine And.intro (by omega) ?_ | refine And.intro (fun _ => ?_) (by omega))
            · repeat (first | refine hJ _ _ _ _ ?_ | refine And.intro (by omega) (fun _ => ?_) | refine And.intro (by omega) ?_ | refine And.intro (fun _ => ?_) (by omega))
              refine And.intro (fun hc2 => ?_) (fun hc2 => ?_)
              · repeat (first | exact ih (k + 1) _ _ _ _ (by omega) (s0 (.inr (.inr (fun g => g.elim (fun g => absurd g (Int.not_lt.mpr ht)) (fun g => g.elim (fun g => absurd g (Int.not_lt.mpr hc)) (fun g => hc2 g.1)))))).symm | refine hJ _ _ _ _ ?_ | refine And.intro (by omega) (fun _ => ?_) | refine And.intro (by omega) ?_ | refine And.intro (fun _ => ?_) (by omega))
              · repeat (first | refine hJ _ _ _ _ ?_ | refine And.intro (by omega) (fun _ => ?_) | refine And.intro (by omega) ?_ | refine And.intro (fun _ => ?_) (by omega))
                refine s_Mo_far P a1 a2 (by omega) (by omega) ?_
                repeat (first | refine hJ _ _ _ _ ?_ | refine And.intro (by omega) (fun _ => ?_) | refine And.intro (by omega) ?_ | refine And.intro (fun _ => ?_) (by omega))
                refine s_Mo_far P a1 a2 (by omega) (by omega) ?_
                repeat (first | refine hJ _ _ _ _ ?_ | refine And.intro (by omega) (fun _ => ?_) | refine And.intro (by omega) ?_ | refine And.intro (fun _ => ?_) (by omega))
                refine And.intro (fun hc3 => ?_) (fun hc3 => ?_)
                · repeat (first | exact ih (k + 1) _ _ _ _ (by omega) (s0 (.inr (.inr (fun g => g.elim (fun g => absurd g (Int.not_lt.mpr ht)) (fun g => g.elim (fun g => absurd g (Int.not_lt.mpr hc)) (fun g => Int.not_lt.mpr hc3 g.2)))))).symm | refine hJ _ _ _ _ ?_ | refine And.intro (by omega) (fun _ => ?_) | refine And.intro (by omega) ?_ | refine And.intro (fun _ => ?_) (by omega))
                · repeat (first | exact ih (k + 1) _ _ _ _ (by omega) (s1 hmk hs (.inr (.inr ⟨hc2, hc3⟩))).symm | refine hJ _ _ _ _ ?_ | refine And.intro (by omega) (fun _ => ?_) | refine And.intro (by omega) ?_ | refine And.intro (fun _ => ?_) (by omega))
          · repeat (first | exact ih (k + 1) _ _ _ _ (by omega) (s1 hmk hs (.inl ht)).symm | refine hJ _ _ _ _ ?_ | refine And.intro (by omega) (fun _ => ?_) | refine And.intro (by omega) ?_ | refine And.intro (fun _ => ?_) (by omega))
      · repeat (first | exact ih (k + 1) _ _ _ _ (by omega) (s0 (.inl hmk)).symm | refine hJ _ _ _ _ ?_ | refine And.intro (by omega) (fun _ => ?_) | refine And.intro (by omega) ?_ | refine And.intro (fun _ => ?_) (by omega))
  repeat (first | exact loop n 0 _ _ _ _ (by omega) rfl | refine hJ _ _ _ _ ?_ | refine And.intro (by omega) (fun _ => ?_) | refine And.intro (by omega) ?_ | refine And.intro (fun _ => ?_) (by omega))
/-- the heap with k corners found -/
def mo_wr (h : AH) (w : Nat → Int) (k : Nat) : AH := fun q j => if q = 24 ∧ j = 8 then (k : Int) else if q = 29 ∧ j < k then w j else h q j
theorem mo_wr_step {h : AH} {w : Nat → Int} {k : Nat} : am_up (am_up (mo_wr h w k) 29 k (w k)) 24 8 ((k : Int) + 1) = mo_wr h w (k + 1) := by
  funext q j
  simp only [am_up, mo_wr]
  grind
theorem mo_wr_o {h : AH} {w : Nat → Int} {k q : Nat} (h1 : q ≠ 24) (h2 : q ≠ 29) : mo_wr h w k q = h q := by
  funext j
  simp [mo_wr, h1, h2]
theorem mo_wr_24 {h : AH} {w : Nat → Int} {k j : Nat} (h1 : j ≠ 8) : mo_wr h w k 24 j = h 24 j := by
  simp [mo_wr, h1]
theorem mo_wr_mp {h : AH} {w : Nat → Int} {k n : Nat} {pt : Nat → ge_P} (P : mp h n pt) : mp (mo_wr h w k) n pt := by
  obtain ⟨p1, p2, p3, p4⟩ := P
  exact ⟨by rw [mo_wr_24 (by decide)]; exact p1, p2, fun i hi => by rw [mo_wr_o (by decide) (by decide), mo_wr_o (by decide) (by decide)]; exact p3 i hi, p4⟩
theorem mo_wr_mm {h : AH} {w : Nat → Int} {k n : Nat} {mk : Nat → Bool} (P : mm h n mk) : mm (mo_wr h w k) n mk := by
  intro p hp
  rw [mo_wr_o (by decide) (by decide)]
  exact P p hp
set_option maxRecDepth 20000 in
set_option maxHeartbeats 2000000 in
theorem s_Mo_wrap {E : AE} {l : Launch} {h : AH} {n : Nat} {pt : Nat → ge_P} (P : mp h n pt) {mk : Nat → Bool} (hm : mm h n mk) {Q : AR} (hQ : Q none (mo_wr h (hu_w pt mk n) (hu_m pt mk n))) : am_g E l 103 [.inr (.inr 24)] h Q := by
  have n60 := P.2.1
  have hN := hu_m_N pt mk n
  have hle := hu_m_le pt mk n
  refine am_met T_Mo_wrap (by decide) (Nat.le_of_ble_eq_true rfl) (fun J hJ => ?_)
  have second : ∀ d k : Nat, ∀ (x : Option AV), k + d = n → (∀ j, j < k → 0 ≤ hu_w pt mk n j) → J 99 [some (.inr (.inr 24)), some (.inl (hu_1 pt mk n)), some (.inl (hu_w pt mk n k)), x] [] (mo_wr h (hu_w pt mk n) k) := by
    intro d
    induction d with
    | zero =>
      intro k x hk hj
      have : k = n := by omega
      subst this
      have hend := hu_w_end pt mk k
      have hb := hu_w_b pt mk k k
      repeat (first | refine hJ _ _ _ _ ?_ | refine And.intro (by omega) (fun _ => ?_) | refine And.intro (by omega) ?_ | refine And.intro (fun _ => ?_) (by omega))
      rw [← hu_N_uniq ⟨hend, hj⟩ hN] at hQ
      exact hQ
    | succ d ih =>
      intro k x hk hj
      have hb := hu_w_b pt mk n k
      have hb1 := hu_1_b pt mk n
      repeat (first | refine hJ _ _ _ _ ?_ | refine And.intro (by omega) (fun _ => ?_) | refine And.intro (by omega) ?_ | refine And.intro (fun _ => ?_) (by omega))
      refine And.intro (fun hx => ?_) (fun hx => ?_)
      · repeat (first | refine hJ _ _ _ _ ?_ | refine And.intro (by omega) (fun _ => ?_) | refine And.intro (by omega) ?_ | refine And.intro (fun _ => ?_) (by omega))
        rw [← hu_N_uniq ⟨hx, hj⟩ hN] at hQ
        exact hQ
      · have hj' : ∀ j, j < k + 1 → 0 ≤ hu_w pt mk n j := fun j h1 => by
          rcases (show j = k ∨ j < k by omega) with g | g
          · subst g; exact hx
          · exact hj j g
        have h0 := hj' 0 (by omega)
        have h01 : hu_w pt mk n 0 = hu_1 pt mk n := rfl
        have hcn : mo_wr h (hu_w pt mk n) k 24 8 = (k : Int) := by simp [mo_wr]
        have hcn2 : am_up (mo_wr h (hu_w pt mk n) k) 29 (mo_wr h (hu_w pt mk n) k 24 8).toNat (hu_w pt mk n k) 24 8 = (k : Int) := by simp [am_up, mo_wr]
        have e0 : am_up (am_up (mo_wr h (hu_w pt mk n) k) 29 (mo_wr h (hu_w pt mk n) k 24 8).toNat (hu_w pt mk n k)) 24 8 (am_up (mo_wr h (hu_w pt mk n) k) 29 (mo_wr h (hu_w pt mk n) k 24 8).toNat (hu_w pt mk n k) 24 8 + 1) = mo_wr h (hu_w pt mk n) (k + 1) := by
          rw [hcn2, hcn]
          exact mo_wr_step
        have hw1 : hu_w pt mk n (k + 1) = if hu_w pt mk n k < 0 ∨ hu_f pt mk (pt (hu_w pt mk n k).toNat) n < 0 ∨ pt (hu_f pt mk (pt (hu_w pt mk n k).toNat) n).toNat = pt (hu_1 pt mk n).toNat then -1 else hu_f pt mk (pt (hu_w pt mk n k).toNat) n := rfl
        have hfb := hu_f_b pt mk (pt (hu_w pt mk n k).toNat) n
        repeat (first | refine hJ _ _ _ _ ?_ | refine And.intro (by omega) (fun _ => ?_) | refine And.intro (by omega) ?_ | refine And.intro (fun _ => ?_) (by omega))
        rw [e0]
        refine s_Mo_follower (mo_wr_mp P) (mo_wr_mm hm) hx (by omega) ?_
        repeat (first | refine hJ _ _ _ _ ?_ | refine And.intro (by omega) (fun _ => ?_) | refine And.intro (by omega) ?_ | refine And.intro (fun _ => ?_) (by omega))
        refine And.intro (fun hf => ?_) (fun hf => ?_)
        · have this := ih (k + 1) (some (.inl (hu_f pt mk (pt (hu_w pt mk n k).toNat) n))) (by omega) hj'
          rw [hw1, if_pos (.inr (.inl hf))] at this
          repeat (first | exact this | refine hJ _ _ _ _ ?_ | refine And.intro (by omega) (fun _ => ?_) | refine And.intro (by omega) ?_ | refine And.intro (fun _ => ?_) (by omega))
        · repeat (first | refine hJ _ _ _ _ ?_ | refine And.intro (by omega) (fun _ => ?_) | refine And.intro (by omega) ?_ | refine And.intro (fun _ => ?_) (by omega))
          refine s_Mo_isSame (mo_wr_mp P) (by omega) (by omega) (by omega) (by omega) (fun hs => ?_) (fun hs => ?_)
          · have this := ih (k + 1) (some (.inl (hu_f pt mk (pt (hu_w pt mk n k).toNat) n))) (by omega) hj'
            rw [hw1, if_pos (.inr (.inr hs))] at this
            repeat (first | exact this | refine hJ _ _ _ _ ?_ | refine And.intro (by omega) (fun _ => ?_) | refine And.intro (by omega) ?_ | refine And.intro (fun _ => ?_) (by omega))
          · have this := ih (k + 1) (some (.inl (hu_f pt mk (pt (hu_w pt mk n k).toNat) n))) (by omega) hj'
            rw [hw1, if_neg (fun g => g.elim (fun g => by omega) (fun g => g.elim (fun g => by omega) hs))] at this
            repeat (first | exact this | refine hJ _ _ _ _ ?_ | refine And.intro (by omega) (fun _ => ?_) | refine And.intro (by omega) ?_ | refine And.intro (fun _ => ?_) (by omega))
  have P0 : mp (mo_wr h (hu_w pt mk n) 0) n pt := mo_wr_mp P
  have hn0 : mo_wr h (hu_w pt mk n) 0 24 3 = (n : Int) := P0.1
  have step1 : ∀ p : Nat, mk p = true → (hu_1 pt mk p < 0 ∨ ((pt p).2 < (pt (hu_1 pt mk p).toNat).2 ∨ ((pt p).2 = (pt (hu_1 pt mk p).toNat).2 ∧ (pt p).1 < (pt (hu_1 pt mk p).toNat).1))) → hu_1 pt mk (p + 1) = (p : Int) := fun p h1 h2 => if_pos ⟨h1, h2⟩
  have step0 : ∀ p : Nat, (¬ mk p = true ∨ ¬ (hu_1 pt mk p < 0 ∨ ((pt p).2 < (pt (hu_1 pt mk p).toNat).2 ∨ ((pt p).2 = (pt (hu_1 pt mk p).toNat).2 ∧ (pt p).1 < (pt (hu_1 pt mk p).toNat).1)))) → hu_1 pt mk (p + 1) = hu_1 pt mk p := fun p h1 => if_neg (fun ⟨g1, g2⟩ => h1.elim (fun g => g g1) (fun g => g g2))
  have first : ∀ d k : Nat, ∀ (acc : Int) (x : Option AV), k + d = n → acc = hu_1 pt mk k → J 9 [some (.inr (.inr 24)), some (.inl acc), some (.inl (k : Int)), x] [] (mo_wr h (hu_w pt mk n) 0) := by
    intro d
    induction d with
    | zero =>
      intro k acc x hk ha
      have : k = n := by omega
      subst this
      have this := second k 0 x (by omega) (fun j hj => absurd hj (Nat.not_lt_zero _))
      have e : hu_w pt mk k 0 = hu_1 pt mk k := rfl
      rw [e, ← ha] at this
      repeat (first | exact this | refine hJ _ _ _ _ ?_ | refine And.intro (by omega) (fun _ => ?_) | refine And.intro (by omega) ?_ | refine And.intro (fun _ => ?_) (by omega))
    | succ d ih =>
      intro k acc x hk ha
      have hb := hu_1_b pt mk k
      have rk := mp_i P0 (i := (k : Int)) (by omega) (by omega)
      have s1 := step1 k
      have s0 := step0 k
      rw [← ha] at s1 s0 hb
      have hmk : (mk k = true ∧ mo_wr h (hu_w pt mk n) 0 28 (Int.toNat (k : Int)) = 1) ∨ (¬ mk k = true ∧ mo_wr h (hu_w pt mk n) 0 28 (Int.toNat (k : Int)) = 0) := mo_wr_mm hm k (by omega)
      have tail : ∀ b : Int, (b = 1 ∧ (acc < 0 ∨ ((pt k).2 < (pt acc.toNat).2 ∨ ((pt k).2 = (pt acc.toNat).2 ∧ (pt k).1 < (pt acc.toNat).1)))) ∨ (b = 0 ∧ ¬ (acc < 0 ∨ ((pt k).2 < (pt acc.toNat).2 ∨ ((pt k).2 = (pt acc.toNat).2 ∧ (pt k).1 < (pt acc.toNat).1)))) → J 71 [some (.inr (.inr 24)), some (.inl acc), some (.inl (k : Int)), x] [.inl b] (mo_wr h (hu_w pt mk n) 0) := by
        intro b hb2
        rcases hmk with ⟨hmk, hv⟩ | ⟨hmk, hv⟩
        · rcases hb2 with ⟨rfl, g⟩ | ⟨rfl, g⟩
          · repeat (first | exact ih (k + 1) _ _ (by omega) (s1 hmk g).symm | refine hJ _ _ _ _ ?_ | refine And.intro (by omega) (fun _ => ?_) | refine And.intro (by omega) ?_ | refine And.intro (fun _ => ?_) (by omega))
          · repeat (first | exact ih (k + 1) _ _ (by omega) (s0 (.inr g)).symm | refine hJ _ _ _ _ ?_ | refine And.intro (by omega) (fun _ => ?_) | refine And.intro (by omega) ?_ | refine And.intro (fun _ => ?_) (by omega))
        · repeat (first | exact ih (k + 1) _ _ (by omega) (s0 (.inl hmk)).symm | refine hJ _ _ _ _ ?_ | refine And.intro (by omega) (fun _ => ?_) | refine And.intro (by omega) ?_ | refine And.intro (fun _ => ?_) (by omega))
      have rk1 : mo_wr h (hu_w pt mk n) 0 25 (Int.toNat (k : Int)) = (pt k).1 := rk.1
      have rk2 : mo_wr h (hu_w pt mk n) 0 26 (Int.toNat (k : Int)) = (pt k).2 := rk.2.1
      have rk3 : -100000 ≤ (pt k).1 ∧ (pt k).1 ≤ 100000 ∧ -100000 ≤ (pt k).2 ∧ (pt k).2 ≤ 100000 := rk.2.2
      repeat (first | refine hJ _ _ _ _ ?_ | refine And.intro (by omega) (fun _ => ?_) | refine And.intro (by omega) ?_ | refine And.intro (fun _ => ?_) (by omega))
      refine And.intro (fun hc => ?_) (fun hc => ?_)
      · repeat (first | exact tail 1 (.inl ⟨rfl, .inl hc⟩) | refine hJ _ _ _ _ ?_ | refine And.intro (by omega) (fun _ => ?_) | refine And.intro (by omega) ?_ | refine And.intro (fun _ => ?_) (by omega))
      · have ra := mp_i P0 hc (show acc < n by omega)
        repeat (first | refine hJ _ _ _ _ ?_ | refine And.intro (by omega) (fun _ => ?_) | refine And.intro (by omega) ?_ | refine And.intro (fun _ => ?_) (by omega))
        refine And.intro (fun hd => ?_) (fun hd => ?_)
        · repeat (first | exact tail 1 (.inl ⟨rfl, .inr (.inl (by omega))⟩) | refine hJ _ _ _ _ ?_ | refine And.intro (by omega) (fun _ => ?_) | refine And.intro (by omega) ?_ | refine And.intro (fun _ => ?_) (by omega))
        · repeat (first | refine hJ _ _ _ _ ?_ | refine And.intro (by omega) (fun _ => ?_) | refine And.intro (by omega) ?_ | refine And.intro (fun _ => ?_) (by omega))
          refine And.intro (fun he => ?_) (fun he => ?_)
          · repeat (first | exact tail 0 (.inr ⟨rfl, by omega⟩) | refine hJ _ _ _ _ ?_ | refine And.intro (by omega) (fun _ => ?_) | refine And.intro (by omega) ?_ | refine And.intro (fun _ => ?_) (by omega))
          · repeat (first | refine hJ _ _ _ _ ?_ | refine And.intro (by omega) (fun _ => ?_) | refine And.intro (by omega) ?_ | refine And.intro (fun _ => ?_) (by omega))
            refine And.intro (fun hf => ?_) (fun hf => ?_)
            · repeat (first | exact tail 0 (.inr ⟨rfl, by omega⟩) | refine hJ _ _ _ _ ?_ | refine And.intro (by omega) (fun _ => ?_) | refine And.intro (by omega) ?_ | refine And.intro (fun _ => ?_) (by omega))
            · repeat (first | exact tail 1 (.inl ⟨rfl, .inr (.inr (by omega))⟩) | refine hJ _ _ _ _ ?_ | refine And.intro (by omega) (fun _ => ?_) | refine And.intro (by omega) ?_ | refine And.intro (fun _ => ?_) (by omega))
  have e9 : am_up h 24 8 0 = mo_wr h (hu_w pt mk n) 0 := by
    funext q j
    simp only [am_up, mo_wr]
    grind
  refine hJ _ _ _ _ ?_
  refine hJ _ _ _ _ ?_
  refine hJ _ _ _ _ ?_
  have this := first n 0 (-1) none (by omega) rfl
  rw [← e9] at this
  repeat (first | exact this | refine hJ _ _ _ _ ?_ | refine And.intro (by omega) (fun _ => ?_) | refine And.intro (by omega) ?_ | refine And.intro (fun _ => ?_) (by omega))
