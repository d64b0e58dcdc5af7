/-! hulls: what the walk depends on, and what it encloses -/
theorem hu_f_congr {pt pt' : Nat → ge_P} {mk mk' : Nat → Bool} {n : Nat} (hp : ∀ i, i < n → pt i = pt' i) (hm : ∀ i, i < n → mk i = mk' i) (a : ge_P) : ∀ k, k ≤ n → hu_f pt mk a k = hu_f pt' mk' a k := by
  intro k
  induction k with
  | zero => intro _; rfl
  | succ k ih =>
    intro hk
    have e := ih (by omega)
    have hb := hu_f_b pt mk a k
    have e1 : hu_f pt mk a (k + 1) = if mk k = true ∧ pt k ≠ a ∧ (hu_f pt mk a k < 0 ∨ (ge_x a (pt (hu_f pt mk a k).toNat) (pt k) < 0 ∨ (ge_x a (pt (hu_f pt mk a k).toNat) (pt k) = 0 ∧ hu_d a (pt (hu_f pt mk a k).toNat) < hu_d a (pt k)))) then (k : Int) else hu_f pt mk a k := rfl
    have e2 : hu_f pt' mk' a (k + 1) = if mk' k = true ∧ pt' k ≠ a ∧ (hu_f pt' mk' a k < 0 ∨ (ge_x a (pt' (hu_f pt' mk' a k).toNat) (pt' k) < 0 ∨ (ge_x a (pt' (hu_f pt' mk' a k).toNat) (pt' k) = 0 ∧ hu_d a (pt' (hu_f pt' mk' a k).toNat) < hu_d a (pt' k)))) then (k : Int) else hu_f pt' mk' a k := rfl
    rw [e1, e2, ← e, hp (hu_f pt mk a k).toNat (by omega), hp k (by omega), hm k (by omega)]
theorem hu_1_congr {pt pt' : Nat → ge_P} {mk mk' : Nat → Bool} {n : Nat} (hp : ∀ i, i < n → pt i = pt' i) (hm : ∀ i, i < n → mk i = mk' i) : ∀ k, k ≤ n → hu_1 pt mk k = hu_1 pt' mk' k := by
  intro k
  induction k with
  | zero => intro _; rfl
  | succ k ih =>
    intro hk
    have e := ih (by omega)
    have hb := hu_1_b pt mk k
    have e1 : hu_1 pt mk (k + 1) = if mk k = true ∧ (hu_1 pt mk k < 0 ∨ ((pt k).2 < (pt (hu_1 pt mk k).toNat).2 ∨ ((pt k).2 = (pt (hu_1 pt mk k).toNat).2 ∧ (pt k).1 < (pt (hu_1 pt mk k).toNat).1))) then (k : Int) else hu_1 pt mk k := rfl
    have e2 : hu_1 pt' mk' (k + 1) = if mk' k = true ∧ (hu_1 pt' mk' k < 0 ∨ ((pt' k).2 < (pt' (hu_1 pt' mk' k).toNat).2 ∨ ((pt' k).2 = (pt' (hu_1 pt' mk' k).toNat).2 ∧ (pt' k).1 < (pt' (hu_1 pt' mk' k).toNat).1))) then (k : Int) else hu_1 pt' mk' k := rfl
    rw [e1, e2, ← e, hp (hu_1 pt mk k).toNat (by omega), hp k (by omega), hm k (by omega)]
theorem hu_w_congr {pt pt' : Nat → ge_P} {mk mk' : Nat → Bool} {n : Nat} (hp : ∀ i, i < n → pt i = pt' i) (hm : ∀ i, i < n → mk i = mk' i) : ∀ k, hu_w pt mk n k = hu_w pt' mk' n k := by
  intro k
  induction k with
  | zero => exact hu_1_congr hp hm n (Nat.le_refl _)
  | succ k ih =>
    have e1 : hu_w pt mk n (k + 1) = if hu_w pt mk n k < 0 ∨ hu_f pt mk (pt (hu_w pt mk n k).toNat) n < 0 ∨ pt (hu_f pt mk (pt (hu_w pt mk n k).toNat) n).toNat = pt (hu_1 pt mk n).toNat then -1 else hu_f pt mk (pt (hu_w pt mk n k).toNat) n := rfl
    have e2 : hu_w pt' mk' n (k + 1) = if hu_w pt' mk' n k < 0 ∨ hu_f pt' mk' (pt' (hu_w pt' mk' n k).toNat) n < 0 ∨ pt' (hu_f pt' mk' (pt' (hu_w pt' mk' n k).toNat) n).toNat = pt' (hu_1 pt' mk' n).toNat then -1 else hu_f pt' mk' (pt' (hu_w pt' mk' n k).toNat) n := rfl
    rcases hu_w_b pt mk n k with g | ⟨g1, g2⟩
    · rw [e1, e2, if_pos (.inl (by omega)), if_pos (.inl (by omega))]
    · have b1 := hu_1_b pt mk n
      have b2 := hu_f_b pt mk (pt (hu_w pt mk n k).toNat) n
      rw [e1, e2, ← ih, ← hu_1_congr hp hm n (Nat.le_refl _), ← hp (hu_w pt mk n k).toNat (by omega), ← hu_f_congr hp hm _ n (Nat.le_refl _), ← hp _ (show (hu_f pt mk (pt (hu_w pt mk n k).toNat) n).toNat < n by omega), ← hp _ (show (hu_1 pt mk n).toNat < n by omega)]
/-- how many corners there are -/
def hu_N (pt : Nat → ge_P) (mk : Nat → Bool) (n m : Nat) : Prop := hu_w pt mk n m < 0 ∧ ∀ j, j < m → 0 ≤ hu_w pt mk n j
theorem hu_N_uniq {pt : Nat → ge_P} {mk : Nat → Bool} {n m m' : Nat} (h : hu_N pt mk n m) (h' : hu_N pt mk n m') : m = m' := by
  rcases (show m < m' ∨ m' < m ∨ m = m' by omega) with g | g | g
  · have := h'.2 m g; have := h.1; omega
  · have := h.2 m' g; have := h'.1; omega
  · exact g
theorem hu_N_le {pt : Nat → ge_P} {mk : Nat → Bool} {n m : Nat} (h : hu_N pt mk n m) : m ≤ n := by
  rcases (show n < m ∨ m ≤ n by omega) with g | g
  · have := h.2 n g; have := hu_w_end pt mk n; omega
  · exact g
def hu_mf (pt : Nat → ge_P) (mk : Nat → Bool) (n : Nat) : Nat → Nat
  | 0 => 0
  | k + 1 => if hu_w pt mk n (hu_mf pt mk n k) < 0 then hu_mf pt mk n k else hu_mf pt mk n k + 1
def hu_m (pt : Nat → ge_P) (mk : Nat → Bool) (n : Nat) : Nat := hu_mf pt mk n n
theorem hu_mf_ok (pt : Nat → ge_P) (mk : Nat → Bool) (n : Nat) : ∀ k, (∀ j, j < hu_mf pt mk n k → 0 ≤ hu_w pt mk n j) ∧ (hu_w pt mk n (hu_mf pt mk n k) < 0 ∨ hu_mf pt mk n k = k) := by
  intro k
  induction k with
  | zero => exact ⟨fun j hj => absurd hj (Nat.not_lt_zero _), .inr rfl⟩
  | succ k ih =>
    have e : hu_mf pt mk n (k + 1) = if hu_w pt mk n (hu_mf pt mk n k) < 0 then hu_mf pt mk n k else hu_mf pt mk n k + 1 := rfl
    by_cases h : hu_w pt mk n (hu_mf pt mk n k) < 0
    · rw [e, if_pos h]
      exact ⟨ih.1, .inl h⟩
    · rw [e, if_neg h]
      refine ⟨fun j hj => ?_, .inr ?_⟩
      · rcases (show j < hu_mf pt mk n k ∨ j = hu_mf pt mk n k by omega) with g | g
        · exact ih.1 j g
        · subst g; omega
      · rcases ih.2 with g | g
        · exact absurd g h
        · omega
theorem hu_m_N (pt : Nat → ge_P) (mk : Nat → Bool) (n : Nat) : hu_N pt mk n (hu_m pt mk n) := by
  have h := hu_mf_ok pt mk n n
  refine ⟨?_, h.1⟩
  rcases h.2 with g | g
  · exact g
  · show hu_w pt mk n (hu_mf pt mk n n) < 0
    rw [g]; exact hu_w_end pt mk n
theorem hu_m_le (pt : Nat → ge_P) (mk : Nat → Bool) (n : Nat) : hu_m pt mk n ≤ n := hu_N_le (hu_m_N pt mk n)
theorem hu_m_congr {pt pt' : Nat → ge_P} {mk mk' : Nat → Bool} {n : Nat} (hp : ∀ i, i < n → pt i = pt' i) (hm : ∀ i, i < n → mk i = mk' i) : hu_m pt mk n = hu_m pt' mk' n := by
  refine hu_N_uniq (hu_m_N pt mk n) ?_
  have h := hu_m_N pt' mk' n
  exact ⟨by rw [hu_w_congr hp hm]; exact h.1, fun j hj => by rw [hu_w_congr hp hm]; exact h.2 j hj⟩
/-- the one behind, round -/
def nx (m k : Nat) : Nat := if k + 1 < m then k + 1 else 0
theorem nx_lt {m k : Nat} (h : k < m) : nx m k < m := by unfold nx; split <;> omega
/-- the place of a corner -/
def hu_p (pt : Nat → ge_P) (mk : Nat → Bool) (n j : Nat) : ge_P := pt (hu_w pt mk n j).toNat
theorem hu_p_congr {pt pt' : Nat → ge_P} {mk mk' : Nat → Bool} {n : Nat} (hp : ∀ i, i < n → pt i = pt' i) (hm : ∀ i, i < n → mk i = mk' i) {j : Nat} (hj : j < hu_m pt mk n) : hu_p pt mk n j = hu_p pt' mk' n j := by
  have h0 := (hu_m_N pt mk n).2 j hj
  have h1 := (hu_w_ok pt mk n j h0).1
  unfold hu_p
  rw [← hu_w_congr hp hm, hp _ h1]
theorem hu_side {pt : Nat → ge_P} {mk : Nat → Bool} {n : Nat} {j p : Nat} (hj : j < hu_m pt mk n) (hp : p < n) (mp : mk p = true) (hne : pt p ≠ hu_p pt mk n j) : 0 < ge_x (hu_p pt mk n j) (hu_p pt mk n (nx (hu_m pt mk n) j)) (pt p) ∨ (ge_x (hu_p pt mk n j) (hu_p pt mk n (nx (hu_m pt mk n) j)) (pt p) = 0 ∧ hu_d (hu_p pt mk n j) (pt p) ≤ hu_d (hu_p pt mk n j) (hu_p pt mk n (nx (hu_m pt mk n) j))) := by
  obtain ⟨hz, hall⟩ := hu_m_N pt mk n
  have hj0 := hall j hj
  have hX := (hu_w_ok pt mk n j hj0).2.2.1
  have hT := hu_f_ok hX n (Nat.le_refl _)
  have key : ∀ t : Int, hu_f pt mk (pt (hu_w pt mk n j).toNat) n = t → 0 ≤ t → (0 < ge_x (hu_p pt mk n j) (pt t.toNat) (pt p) ∨ (ge_x (hu_p pt mk n j) (pt t.toNat) (pt p) = 0 ∧ hu_d (hu_p pt mk n j) (pt p) ≤ hu_d (hu_p pt mk n j) (pt t.toNat))) := by
    intro t ht h0
    rw [ht] at hT
    rcases hT with ⟨g, -⟩ | ⟨-, -, -, -, g, -⟩
    · omega
    · exact g p hp mp hne
  by_cases h1 : j + 1 < hu_m pt mk n
  · have e : nx (hu_m pt mk n) j = j + 1 := if_pos h1
    rw [e]
    have h2 := hall (j + 1) h1
    exact key _ (hu_w_back h2).2.1.symm h2
  · have e : nx (hu_m pt mk n) j = 0 := if_neg h1
    rw [e]
    have e2 : j + 1 = hu_m pt mk n := by omega
    rw [← e2] at hz
    rcases hu_w_last hj0 hz with g | g
    · rw [g] at hT
      rcases hT with ⟨-, g2⟩ | ⟨g2, -⟩
      · exact absurd (g2 p hp mp) hne
      · omega
    · exact key _ g (hall 0 (by omega))
theorem hu_left {pt : Nat → ge_P} {mk : Nat → Bool} {n : Nat} {j p : Nat} (hj : j < hu_m pt mk n) (hp : p < n) (mp : mk p = true) : 0 ≤ ge_x (hu_p pt mk n j) (hu_p pt mk n (nx (hu_m pt mk n) j)) (pt p) := by
  by_cases hne : pt p = hu_p pt mk n j
  · rw [hne, (ge_x_00 _ _).1]; exact Int.le_refl _
  · rcases hu_side hj hp mp hne with g | g <;> omega
/-- where a place lies: 1 within, 0 on the border, -1 outside -/
def hu_in (cp : Nat → ge_P) (m : Nat) (x : ge_P) : Nat → Int
  | 0 => 1
  | k + 1 => if ge_x (cp k) (cp (nx m k)) x < 0 then -1 else if ge_x (cp k) (cp (nx m k)) x = 0 ∧ 0 < hu_in cp m x k then 0 else hu_in cp m x k
def hu_at (cp : Nat → ge_P) (m : Nat) (x : ge_P) : Int := if m = 0 then -1 else if m < 3 then (if ge_on (cp 0) (cp (m - 1)) x then 0 else -1) else hu_in cp m x m
theorem hu_in_n {cp : Nat → ge_P} {m : Nat} {x : ge_P} {k : Nat} (h : ge_x (cp k) (cp (nx m k)) x < 0) : hu_in cp m x (k + 1) = -1 := if_pos h
theorem hu_in_0 {cp : Nat → ge_P} {m : Nat} {x : ge_P} {k : Nat} (h : ge_x (cp k) (cp (nx m k)) x = 0) (h1 : 0 ≤ hu_in cp m x k) : hu_in cp m x (k + 1) = 0 := by
  have e : hu_in cp m x (k + 1) = if ge_x (cp k) (cp (nx m k)) x < 0 then -1 else if ge_x (cp k) (cp (nx m k)) x = 0 ∧ 0 < hu_in cp m x k then 0 else hu_in cp m x k := rfl
  rw [e, if_neg (by omega)]
  split
  · rfl
  · omega
theorem hu_in_p {cp : Nat → ge_P} {m : Nat} {x : ge_P} {k : Nat} (h : 0 < ge_x (cp k) (cp (nx m k)) x) : hu_in cp m x (k + 1) = hu_in cp m x k := by
  have e : hu_in cp m x (k + 1) = if ge_x (cp k) (cp (nx m k)) x < 0 then -1 else if ge_x (cp k) (cp (nx m k)) x = 0 ∧ 0 < hu_in cp m x k then 0 else hu_in cp m x k := rfl
  rw [e, if_neg (by omega), if_neg (by omega)]
theorem hu_in_v (cp : Nat → ge_P) (m : Nat) (x : ge_P) (k : Nat) : -1 ≤ hu_in cp m x k ∧ hu_in cp m x k ≤ 1 := by
  induction k with
  | zero => exact ⟨show (-1 : Int) ≤ 1 by decide, show (1 : Int) ≤ 1 by decide⟩
  | succ k ih =>
    have e : hu_in cp m x (k + 1) = if ge_x (cp k) (cp (nx m k)) x < 0 then -1 else if ge_x (cp k) (cp (nx m k)) x = 0 ∧ 0 < hu_in cp m x k then 0 else hu_in cp m x k := rfl
    rw [e]
    split
    · omega
    · split <;> omega
theorem hu_in_stay {cp : Nat → ge_P} {m : Nat} {x : ge_P} {k : Nat} (h : hu_in cp m x k = -1) (d : Nat) : hu_in cp m x (k + d) = -1 := by
  induction d with
  | zero => exact h
  | succ d ih =>
    have e : hu_in cp m x (k + d + 1) = if ge_x (cp (k + d)) (cp (nx m (k + d))) x < 0 then -1 else if ge_x (cp (k + d)) (cp (nx m (k + d))) x = 0 ∧ 0 < hu_in cp m x (k + d) then 0 else hu_in cp m x (k + d) := rfl
    show hu_in cp m x (k + d + 1) = -1
    rw [e]
    split
    · rfl
    · rw [if_neg (by omega)]; exact ih
theorem hu_at_v (cp : Nat → ge_P) (m : Nat) (x : ge_P) : -1 ≤ hu_at cp m x ∧ hu_at cp m x ≤ 1 := by
  unfold hu_at
  split
  · omega
  · split
    · split <;> omega
    · exact hu_in_v cp m x m
theorem hu_in_congr {cp cp' : Nat → ge_P} {m : Nat} (h : ∀ j, j < m → cp j = cp' j) (x : ge_P) : ∀ k, k ≤ m → hu_in cp m x k = hu_in cp' m x k := by
  intro k
  induction k with
  | zero => intro _; rfl
  | succ k ih =>
    intro hk
    have e : hu_in cp m x (k + 1) = if ge_x (cp k) (cp (nx m k)) x < 0 then -1 else if ge_x (cp k) (cp (nx m k)) x = 0 ∧ 0 < hu_in cp m x k then 0 else hu_in cp m x k := rfl
    have e' : hu_in cp' m x (k + 1) = if ge_x (cp' k) (cp' (nx m k)) x < 0 then -1 else if ge_x (cp' k) (cp' (nx m k)) x = 0 ∧ 0 < hu_in cp' m x k then 0 else hu_in cp' m x k := rfl
    rw [e, e', ih (by omega), h k (by omega), h (nx m k) (nx_lt (by omega))]
theorem hu_at_congr {cp cp' : Nat → ge_P} {m : Nat} (h : ∀ j, j < m → cp j = cp' j) (x : ge_P) : hu_at cp m x = hu_at cp' m x := by
  unfold hu_at
  by_cases h0 : m = 0
  · rw [if_pos h0, if_pos h0]
  · rw [if_neg h0, if_neg h0, h 0 (by omega), h (m - 1) (by omega), hu_in_congr h x m (Nat.le_refl _)]
/-- on the line and not farther off than either end -/
theorem ge_two {a b p : ge_P} (hx : ge_x a b p = 0) (h1 : hu_d a p ≤ hu_d a b) (h2 : hu_d b p ≤ hu_d b a) : ge_on a b p := by
  rw [← ge_on_iff]
  refine ⟨hx, ?_⟩
  have e1 : hu_d a b = hu_d p a + hu_d p b - 2 * ge_dot p a b := by unfold hu_d ge_dot; grind
  have e2 : hu_d b a = hu_d a b := by unfold hu_d; grind
  have e3 : hu_d a p = hu_d p a := by unfold hu_d; grind
  have e4 : hu_d b p = hu_d p b := by unfold hu_d; grind
  have la : ge_dot p a b * ge_dot p a b = hu_d p a * hu_d p b - ge_x a b p * ge_x a b p := by unfold ge_dot hu_d ge_x; grind
  rw [hx] at la
  apply Classical.byContradiction
  intro g
  have g1 : 2 * ge_dot p a b ≤ hu_d p b := by omega
  have g2 : 2 * ge_dot p a b ≤ hu_d p a := by omega
  have p1 := Int.mul_pos (show 0 < ge_dot p a b by omega) (show 0 < ge_dot p a b by omega)
  have p2 := Int.mul_nonneg (show 0 ≤ hu_d p a - 2 * ge_dot p a b by omega) (show 0 ≤ hu_d p b by omega)
  have p3 := Int.mul_nonneg (show 0 ≤ ge_dot p a b by omega) (show 0 ≤ hu_d p b - 2 * ge_dot p a b by omega)
  have f1 : (hu_d p a - 2 * ge_dot p a b) * hu_d p b = hu_d p a * hu_d p b - 2 * (ge_dot p a b * hu_d p b) := by grind
  have f2 : ge_dot p a b * (hu_d p b - 2 * ge_dot p a b) = ge_dot p a b * hu_d p b - 2 * (ge_dot p a b * ge_dot p a b) := by grind
  omega
theorem hu_in_ge {cp : Nat → ge_P} {m : Nat} {x : ge_P} : ∀ k, (∀ j, j < k → 0 ≤ ge_x (cp j) (cp (nx m j)) x) → 0 ≤ hu_in cp m x k := by
  intro k
  induction k with
  | zero => intro _; exact (show (0 : Int) ≤ 1 by decide)
  | succ k ih =>
    intro h
    have i := ih (fun j hj => h j (by omega))
    have hk := h k (by omega)
    rcases (show ge_x (cp k) (cp (nx m k)) x = 0 ∨ 0 < ge_x (cp k) (cp (nx m k)) x by omega) with g | g
    · rw [hu_in_0 g i]; exact Int.le_refl _
    · rw [hu_in_p g]; exact i
theorem hu_in_z {cp : Nat → ge_P} {m : Nat} {x : ge_P} (h0 : ge_x (cp 0) (cp (nx m 0)) x = 0) : ∀ k, (∀ j, j < k + 1 → 0 ≤ ge_x (cp j) (cp (nx m j)) x) → hu_in cp m x (k + 1) = 0 := by
  intro k
  induction k with
  | zero => intro _; exact hu_in_0 h0 (show (0 : Int) ≤ 1 by decide)
  | succ k ih =>
    intro h
    have i := ih (fun j hj => h j (by omega))
    have hk := h (k + 1) (by omega)
    rcases (show ge_x (cp (k + 1)) (cp (nx m (k + 1))) x = 0 ∨ 0 < ge_x (cp (k + 1)) (cp (nx m (k + 1))) x by omega) with g | g
    · exact hu_in_0 g (by omega)
    · rw [hu_in_p g]; exact i
/-- where a place lies as to the hull of the marked points -/
def hu_a (pt : Nat → ge_P) (mk : Nat → Bool) (n : Nat) (x : ge_P) : Int := hu_at (hu_p pt mk n) (hu_m pt mk n) x
theorem hu_a_congr {pt pt' : Nat → ge_P} {mk mk' : Nat → Bool} {n : Nat} (hp : ∀ i, i < n → pt i = pt' i) (hm : ∀ i, i < n → mk i = mk' i) (x : ge_P) : hu_a pt mk n x = hu_a pt' mk' n x := by
  unfold hu_a
  rw [hu_at_congr (cp' := hu_p pt' mk' n) (fun j hj => hu_p_congr hp hm hj) x, hu_m_congr hp hm]
/-- no marked point lies outside -/
theorem hu_a_ge {pt : Nat → ge_P} {mk : Nat → Bool} {n p : Nat} (hp : p < n) (mp : mk p = true) (h0 : 0 < hu_m pt mk n) : 0 ≤ hu_a pt mk n (pt p) := by
  have hs := fun j (hj : j < hu_m pt mk n) (hne : pt p ≠ hu_p pt mk n j) => hu_side hj hp mp hne
  have hl := fun j (hj : j < hu_m pt mk n) => hu_left hj hp mp
  unfold hu_a hu_at
  generalize hu_m pt mk n = m at *
  rw [if_neg (by omega)]
  by_cases h3 : m < 3
  · rw [if_pos h3]
    have key : ge_on (hu_p pt mk n 0) (hu_p pt mk n (m - 1)) (pt p) := by
      rcases (show m = 1 ∨ m = 2 by omega) with g | g
      · subst g
        have e : pt p = hu_p pt mk n 0 := by
          apply Classical.byContradiction
          intro hne
          have e0 : nx 1 0 = 0 := rfl
          rcases hs 0 (by omega) hne with q | ⟨-, q⟩
          · rw [e0, (ge_x_00 _ _).2.2] at q; omega
          · rw [e0, hu_d_0] at q
            have := hu_d_pos (Ne.symm hne)
            omega
        rw [e]
        exact ⟨(ge_x_00 _ _).1, by omega, by omega⟩
      · subst g
        show ge_on (hu_p pt mk n 0) (hu_p pt mk n 1) (pt p)
        by_cases e0 : pt p = hu_p pt mk n 0
        · rw [e0]; exact ⟨(ge_x_00 _ _).1, by omega, by omega⟩
        · by_cases e1 : pt p = hu_p pt mk n 1
          · rw [e1]; exact ⟨(ge_x_00 _ _).2.1, by omega, by omega⟩
          · have q0 := hs 0 (by omega) e0
            have q1 := hs 1 (by omega) e1
            have n0 : nx 2 0 = 1 := rfl
            have n1 : nx 2 1 = 0 := rfl
            rw [n0] at q0
            rw [n1] at q1
            have sw := ge_x_swap (hu_p pt mk n 0) (hu_p pt mk n 1) (pt p)
            exact ge_two (by omega) (by omega) (by omega)
    rw [if_pos key]
    exact Int.le_refl _
  · rw [if_neg h3]
    exact hu_in_ge m hl
/-- the first corner lies on the border -/
theorem hu_a_first {pt : Nat → ge_P} {mk : Nat → Bool} {n : Nat} (h0 : 0 < hu_m pt mk n) : hu_a pt mk n (hu_p pt mk n 0) = 0 := by
  have hw := (hu_m_N pt mk n).2 0 h0
  have hok := hu_w_ok pt mk n 0 hw
  have hl := fun j (hj : j < hu_m pt mk n) => hu_left hj hok.1 hok.2.1
  unfold hu_a hu_at
  generalize hu_m pt mk n = m at *
  rw [if_neg (by omega)]
  by_cases h3 : m < 3
  · rw [if_pos h3, if_pos ⟨(ge_x_00 _ _).1, by omega, by omega⟩]
  · rw [if_neg h3]
    obtain ⟨k, rfl⟩ : ∃ k, m = k + 1 := ⟨m - 1, by omega⟩
    exact hu_in_z ((ge_x_00 _ _).1) k hl
/-- there is a corner where there is a marked point -/
theorem hu_m_pos {pt : Nat → ge_P} {mk : Nat → Bool} {n p : Nat} (hp : p < n) (mp : mk p = true) : 0 < hu_m pt mk n := by
  rcases (show hu_m pt mk n = 0 ∨ 0 < hu_m pt mk n by omega) with g | g
  · have h := (hu_m_N pt mk n).1
    rw [g] at h
    have h' : hu_1 pt mk n < 0 := h
    rcases hu_1_ok pt mk n with ⟨-, q⟩ | ⟨q, -⟩
    · have := q p hp; rw [this] at mp; exact absurd mp (by decide)
    · omega
  · exact g
/-! twice the area, both ways -/
theorem ge_x_r (a b c : ge_P) : ge_x a b c = ge_r a b + ge_r b c + ge_r c a := by unfold ge_x ge_r; grind
theorem ge_fan (c : Nat → ge_P) : ∀ e, su (fun i => ge_x (c 0) (c (i - 1)) (c i)) 2 (e + 2) = su (fun i => ge_r (c i) (c (i + 1))) 0 (e + 1) + ge_r (c (e + 1)) (c 0) := by
  intro e
  induction e with
  | zero =>
    rw [su_0 (by omega), su_s (by omega), su_0 (by omega)]
    unfold ge_r; grind
  | succ e ih =>
    rw [su_s (by omega), ih, su_s (by omega) (e := e + 1)]
    have e1 : e + 2 - 1 = e + 1 := rfl
    have := ge_x_r (c 0) (c (e + 1)) (c (e + 2))
    have r0 : ge_r (c 0) (c (e + 1)) = - ge_r (c (e + 1)) (c 0) := by unfold ge_r; grind
    rw [e1]
    show _ + _ = _ + ge_r (c (e + 1)) (c (e + 2)) + ge_r (c (e + 2)) (c 0)
    omega
theorem ge_fan_eq (c : Nat → ge_P) (m : Nat) : su (fun i => ge_x (c 0) (c (i - 1)) (c i)) 2 m = su (fun i => ge_r (c i) (c (nx m i))) 0 m := by
  rcases (show m = 0 ∨ m = 1 ∨ ∃ e, m = e + 2 by
    rcases m with _ | _ | e
    · exact .inl rfl
    · exact .inr (.inl rfl)
    · exact .inr (.inr ⟨e, rfl⟩)) with rfl | rfl | ⟨e, rfl⟩
  · rfl
  · rw [su_0 (by omega), su_s (by omega), su_0 (by omega)]
    have e0 : nx 1 0 = 0 := rfl
    rw [e0]
    unfold ge_r; grind
  · rw [ge_fan, su_s (by omega) (e := e + 1)]
    have e1 : nx (e + 2) (e + 1) = 0 := if_neg (by omega)
    rw [e1]
    rw [su_congr (g := fun i => ge_r (c i) (c (nx (e + 2) i))) (g' := fun i => ge_r (c i) (c (i + 1))) (fun j _ h2 => by
      show ge_r (c j) (c (nx (e + 2) j)) = ge_r (c j) (c (j + 1))
      rw [show nx (e + 2) j = j + 1 from if_pos (by omega)])]
