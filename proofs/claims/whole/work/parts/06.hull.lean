/-! gift wrapping -/
def hu_d (a b : ge_P) : Int := (b.1 - a.1) * (b.1 - a.1) + (b.2 - a.2) * (b.2 - a.2)
def hu_dot (d u : ge_P) : Int := d.1 * u.1 + d.2 * u.2
def hu_cr (u v : ge_P) : Int := u.1 * v.2 - u.2 * v.1
def hu_v (a b : ge_P) : ge_P := (b.1 - a.1, b.2 - a.2)
theorem hu_cr_x (a b c : ge_P) : hu_cr (hu_v a b) (hu_v a c) = ge_x a b c := by unfold hu_cr hu_v ge_x; grind
/-- in the half plane of d, with a side for its own line -/
def hu_H (d : ge_P) (s : Int) (v : ge_P) : Prop := 0 < hu_cr d v ∨ (hu_cr d v = 0 ∧ 0 < s * hu_dot d v)
theorem hu_sq (t : Int) : 0 ≤ t * t ∧ (t ≠ 0 → 0 < t * t) := by
  rcases (show 0 < t ∨ t = 0 ∨ 0 < -t by omega) with h | h | h
  · have := Int.mul_pos h h; exact ⟨by omega, fun _ => this⟩
  · subst h; simp
  · have := Int.mul_pos h h; have e : -t * -t = t * t := by grind
    rw [e] at this; exact ⟨by omega, fun _ => this⟩
theorem hu_pl (d u v w : ge_P) : hu_cr d v * hu_cr u w = hu_cr d w * hu_cr u v + hu_cr d u * hu_cr v w := by unfold hu_cr; grind
/-- multiples of d -/
theorem hu_line {d v : ge_P} (h : hu_cr d v = 0) (w : ge_P) : hu_dot d d * hu_cr v w = hu_dot d v * hu_cr d w ∧ hu_dot d d * hu_dot v w = hu_dot d v * hu_dot d w := by
  unfold hu_cr hu_dot at *; constructor <;> grind
theorem hu_H_ne {d v : ge_P} {s : Int} (h : hu_H d s v) : 0 < hu_dot d d := by
  have h1 := hu_sq d.1
  have h2 := hu_sq d.2
  rcases (show 0 < hu_dot d d ∨ hu_dot d d ≤ 0 by omega) with g | g
  · exact g
  · exfalso
    unfold hu_dot at g
    have e1 : d.1 = 0 := by
      apply Classical.byContradiction; intro q; have := h1.2 q; omega
    have e2 : d.2 = 0 := by
      apply Classical.byContradiction; intro q; have := h2.2 q; omega
    rcases h with h | h
    · unfold hu_cr at h; rw [e1, e2] at h; simp at h
    · have := h.2; unfold hu_dot at this; rw [e1, e2] at this; simp at this
theorem hu_trans {d u v w : ge_P} {s : Int} (hs : s = 1 ∨ s = -1) (hu : hu_H d s u) (hv : hu_H d s v) (hw : hu_H d s w) (h1 : 0 ≤ hu_cr u v) (h2 : 0 ≤ hu_cr v w) : 0 ≤ hu_cr u w := by
  have hd := hu_H_ne hu
  have pu : 0 ≤ hu_cr d u := by rcases hu with h | h <;> omega
  have pw : 0 ≤ hu_cr d w := by rcases hw with h | h <;> omega
  rcases hv with hv | ⟨hv, hv2⟩
  · have := hu_pl d u v w
    have q1 := Int.mul_nonneg pw h1
    have q2 := Int.mul_nonneg pu h2
    rcases Int.lt_or_le (hu_cr u w) 0 with g | g
    · have := Int.mul_pos hv (show 0 < - hu_cr u w by omega)
      grind
    · exact g
  · -- v is a multiple of d
    have l1 := (hu_line hv w).1
    have l2 := (hu_line hv u).1
    have a1 : hu_cr v u = - hu_cr u v := by unfold hu_cr; grind
    have s1 : 0 ≤ hu_dot d d * hu_cr v w := Int.mul_nonneg (by omega) h2
    have s2 : hu_dot d d * hu_cr v u ≤ 0 := by rw [a1]; have := Int.mul_nonneg (show 0 ≤ hu_dot d d by omega) h1; grind
    rcases hs with rfl | rfl
    · -- v along d : u too
      have hvp : 0 < hu_dot d v := by omega
      have u0 : hu_cr d u = 0 := by
        rcases (show hu_cr d u = 0 ∨ 0 < hu_cr d u by omega) with g | g
        · exact g
        · have := Int.mul_pos hvp g; omega
      have up : 0 < hu_dot d u := by rcases hu with h | h <;> omega
      have l3 := (hu_line u0 w).1
      have q := Int.mul_nonneg (show 0 ≤ hu_dot d u by omega) pw
      rcases Int.lt_or_le (hu_cr u w) 0 with g | g
      · have := Int.mul_pos hd (show 0 < - hu_cr u w by omega)
        grind
      · exact g
    · have hvp : hu_dot d v < 0 := by omega
      have w0 : hu_cr d w = 0 := by
        rcases (show hu_cr d w = 0 ∨ 0 < hu_cr d w by omega) with g | g
        · exact g
        · have := Int.mul_pos (show 0 < - hu_dot d v by omega) g; grind
      have wp : hu_dot d w < 0 := by rcases hw with h | h <;> omega
      have l3 := (hu_line w0 u).1
      have a2 : hu_cr w u = - hu_cr u w := by unfold hu_cr; grind
      have q := Int.mul_nonneg (show 0 ≤ - hu_dot d w by omega) pu
      rcases Int.lt_or_le (hu_cr u w) 0 with g | g
      · have := Int.mul_pos hd (show 0 < - hu_cr u w by omega)
        grind
      · exact g
/-- on one line: on one ray -/
theorem hu_ray {d u v : ge_P} {s : Int} (hs : s = 1 ∨ s = -1) (hu : hu_H d s u) (hv : hu_H d s v) (h : hu_cr u v = 0) : 0 < hu_dot u v := by
  have hd := hu_H_ne hu
  have e1 : hu_dot d d * hu_dot u v = hu_cr d u * hu_cr d v + hu_dot d u * hu_dot d v := by unfold hu_dot hu_cr; grind
  have e2 : hu_dot d d * hu_cr u v = hu_dot d u * hu_cr d v - hu_dot d v * hu_cr d u := by unfold hu_dot hu_cr; grind
  rw [h] at e2
  have key : 0 < hu_cr d u * hu_cr d v + hu_dot d u * hu_dot d v := by
    rcases hu with hu | ⟨hu, hu2⟩
    · rcases hv with hv | ⟨hv, hv2⟩
      · have q1 := Int.mul_pos hu hv
        -- dots of one sign
        have q2 : 0 ≤ hu_dot d u * hu_dot d v := by
          have e3 : hu_dot d u * hu_cr d v = hu_dot d v * hu_cr d u := by omega
          rcases Int.lt_or_le (hu_dot d u * hu_dot d v) 0 with g | g
          · exfalso
            have g1 := Int.mul_pos (show 0 < - (hu_dot d u * hu_dot d v) by omega) q1
            have g2 : (hu_dot d u * hu_dot d v) * (hu_cr d u * hu_cr d v) = (hu_dot d u * hu_cr d v) * (hu_dot d v * hu_cr d u) := by grind
            rw [e3] at g2
            have := (hu_sq (hu_dot d v * hu_cr d u)).1
            grind
          · exact g
        omega
      · exfalso
        rw [hv] at e2
        have : hu_dot d v ≠ 0 := by intro q; rw [q] at hv2; simp at hv2
        simp at e2
        have e3 : hu_dot d v * hu_cr d u = 0 := by omega
        rcases Int.mul_eq_zero.mp e3 with q | q <;> omega
    · have h0 : hu_dot d u * hu_cr d v = 0 := by rw [hu] at e2; simp at e2; omega
      have hu3 : hu_dot d u ≠ 0 := by intro q; rw [q] at hu2; simp at hu2
      have hv0 : hu_cr d v = 0 := by rcases Int.mul_eq_zero.mp h0 with q | q <;> omega
      have hv2 : 0 < s * hu_dot d v := by rcases hv with h | h <;> omega
      rw [hu, hv0]
      rcases hs with rfl | rfl
      · have := Int.mul_pos (show 0 < hu_dot d u by omega) (show 0 < hu_dot d v by omega); simp; exact this
      · have := Int.mul_pos (show 0 < - hu_dot d u by omega) (show 0 < - hu_dot d v by omega); simp; grind
  rw [← e1] at key
  rcases Int.lt_or_le 0 (hu_dot u v) with g | g
  · exact g
  · have := Int.mul_nonneg (show 0 ≤ hu_dot d d by omega) (show 0 ≤ - hu_dot u v by omega)
    grind
/-- is p to be taken before t, seen from a -/
def hu_b (a t p : ge_P) : Prop := ge_x a t p < 0 ∨ (ge_x a t p = 0 ∧ hu_d a t < hu_d a p)
/-- the next corner behind one at the place a, among the first k points -/
def hu_f (pt : Nat → ge_P) (mk : Nat → Bool) (a : ge_P) : Nat → Int
  | 0 => -1
  | k + 1 => if mk k = true ∧ pt k ≠ a ∧ (hu_f pt mk a k < 0 ∨ (ge_x a (pt (hu_f pt mk a k).toNat) (pt k) < 0 ∨ (ge_x a (pt (hu_f pt mk a k).toNat) (pt k) = 0 ∧ hu_d a (pt (hu_f pt mk a k).toNat) < hu_d a (pt k)))) then (k : Int) else hu_f pt mk a k
/-- a corner that has all points (of the first k) in one half plane -/
def hu_X (pt : Nat → ge_P) (mk : Nat → Bool) (n : Nat) (a : ge_P) : Prop := ∃ (d : ge_P) (s : Int), (s = 1 ∨ s = -1) ∧ ∀ p, p < n → mk p = true → pt p ≠ a → hu_H d s (hu_v a (pt p))
def hu_T (pt : Nat → ge_P) (mk : Nat → Bool) (a : ge_P) (k : Nat) (t : Int) : Prop :=
  (t = -1 ∧ ∀ p, p < k → mk p = true → pt p = a) ∨ (0 ≤ t ∧ t.toNat < k ∧ mk t.toNat = true ∧ pt t.toNat ≠ a ∧ (∀ p, p < k → mk p = true → pt p ≠ a → 0 < ge_x a (pt t.toNat) (pt p) ∨ (ge_x a (pt t.toNat) (pt p) = 0 ∧ hu_d a (pt p) ≤ hu_d a (pt t.toNat))) ∧ ∀ p, p < t.toNat → mk p = true → pt p ≠ pt t.toNat)
theorem hu_v_eq {a u v : ge_P} (h : hu_v a u = hu_v a v) : u = v := by
  unfold hu_v at h
  have h1 := congrArg Prod.fst h
  have h2 := congrArg Prod.snd h
  dsimp only at h1 h2
  exact Prod.ext (by omega) (by omega)
/-- on one ray and as far: the same place -/
theorem hu_same {u v : ge_P} (h : hu_cr u v = 0) (hd : 0 < hu_dot u v) (he : hu_dot u u = hu_dot v v) : u = v := by
  have h1 : hu_dot u u * hu_dot v v = hu_dot u v * hu_dot u v + hu_cr u v * hu_cr u v := by unfold hu_dot hu_cr; grind
  rw [h] at h1
  have h2 : hu_dot v v * hu_dot v v = hu_dot u v * hu_dot u v := by rw [he] at h1; simp at h1; omega
  have hv := hu_sq v.1
  have hv2 := hu_sq v.2
  have hvv : 0 ≤ hu_dot v v := by unfold hu_dot; omega
  have h3 : hu_dot v v = hu_dot u v := by
    have : (hu_dot v v - hu_dot u v) * (hu_dot v v + hu_dot u v) = 0 := by grind
    rcases Int.mul_eq_zero.mp this with q | q <;> omega
  have h4 : (u.1 - v.1) * (u.1 - v.1) + (u.2 - v.2) * (u.2 - v.2) = 0 := by
    have : (u.1 - v.1) * (u.1 - v.1) + (u.2 - v.2) * (u.2 - v.2) = hu_dot u u - 2 * hu_dot u v + hu_dot v v := by unfold hu_dot; grind
    omega
  have q1 := hu_sq (u.1 - v.1)
  have q2 := hu_sq (u.2 - v.2)
  have e1 : u.1 - v.1 = 0 := by apply Classical.byContradiction; intro q; have := q1.2 q; omega
  have e2 : u.2 - v.2 = 0 := by apply Classical.byContradiction; intro q; have := q2.2 q; omega
  exact Prod.ext (by omega) (by omega)
theorem hu_sqle {A B C : Int} (hA : 0 < A) (h : A * B = C * C) (h1 : A ≤ C) (h2 : B ≤ A) : A = B := by
  have m1 := Int.mul_nonneg (show 0 ≤ C - A by omega) (show 0 ≤ C + A by omega)
  rcases (show A = B ∨ 0 < A - B by omega) with g | g
  · exact g
  · have := Int.mul_pos hA g
    grind
theorem hu_d_dot (a b : ge_P) : hu_d a b = hu_dot (hu_v a b) (hu_v a b) := rfl
theorem hu_step {d : ge_P} {s : Int} (hs : s = 1 ∨ s = -1) {a t p q : ge_P} (ht : hu_H d s (hu_v a t)) (hp : hu_H d s (hu_v a p)) (hq : hu_H d s (hu_v a q)) (hb : ge_x a t p < 0 ∨ (ge_x a t p = 0 ∧ hu_d a t < hu_d a p)) (hm : 0 < ge_x a t q ∨ (ge_x a t q = 0 ∧ hu_d a q ≤ hu_d a t)) : 0 < ge_x a p q ∨ (ge_x a p q = 0 ∧ hu_d a q ≤ hu_d a p) := by
  simp only [← hu_cr_x] at hb hm ⊢
  have sw : hu_cr (hu_v a p) (hu_v a t) = - hu_cr (hu_v a t) (hu_v a p) := by unfold hu_cr; grind
  have sq : hu_cr (hu_v a q) (hu_v a p) = - hu_cr (hu_v a p) (hu_v a q) := by unfold hu_cr; grind
  have h0 : 0 ≤ hu_cr (hu_v a p) (hu_v a q) := hu_trans hs hp ht hq (by omega) (by omega)
  rcases (show 0 < hu_cr (hu_v a p) (hu_v a q) ∨ hu_cr (hu_v a p) (hu_v a q) = 0 by omega) with g | g
  · exact .inl g
  · right
    refine ⟨g, ?_⟩
    -- q is on p's ray
    have r : 0 ≤ hu_cr (hu_v a t) (hu_v a p) := hu_trans hs ht hq hp (by omega) (by omega)
    have r2 : hu_cr (hu_v a t) (hu_v a p) = 0 ∧ hu_d a t < hu_d a p := by omega
    have r3 : hu_cr (hu_v a q) (hu_v a t) = - hu_cr (hu_v a t) (hu_v a q) := by unfold hu_cr; grind
    have r4 : 0 ≤ hu_cr (hu_v a q) (hu_v a t) := hu_trans hs hq hp ht (by omega) (by omega)
    omega
theorem hu_f_ok {pt : Nat → ge_P} {mk : Nat → Bool} {n : Nat} {a : ge_P} (hX : hu_X pt mk n a) : ∀ k, k ≤ n → hu_T pt mk a k (hu_f pt mk a k) := by
  obtain ⟨d, s, hs, hH⟩ := hX
  intro k
  induction k with
  | zero => intro _; left; exact ⟨rfl, fun p hp => by omega⟩
  | succ k ih =>
    intro hk
    have ih := ih (by omega)
    show hu_T pt mk a (k + 1) (if _ then _ else _)
    split
    · rename_i hc
      obtain ⟨h1, h2, h3⟩ := hc
      right
      have ek : ((k : Int)).toNat = k := by omega
      rw [ek]
      refine ⟨by omega, by omega, h1, h2, ?_, ?_⟩
      · intro p hp hmp hne
        rcases (show p = k ∨ p < k by omega) with g | g
        · subst g; right; exact ⟨(ge_x_00 a (pt p)).2.1, Int.le_refl _⟩
        · rcases ih with ⟨i1, i2⟩ | ⟨i1, i2, i3, i4, i5, i6⟩
          · exact absurd (i2 p g hmp) hne
          · have hb : ge_x a (pt (hu_f pt mk a k).toNat) (pt k) < 0 ∨ (ge_x a (pt (hu_f pt mk a k).toNat) (pt k) = 0 ∧ hu_d a (pt (hu_f pt mk a k).toNat) < hu_d a (pt k)) := by
              rcases h3 with h3 | h3
              · omega
              · exact h3
            exact hu_step hs (hH _ (by omega) i3 i4) (hH k (by omega) h1 h2) (hH p (by omega) hmp hne) hb (i5 p g hmp hne)
      · intro p hp hmp heq
        rcases ih with ⟨i1, i2⟩ | ⟨i1, i2, i3, i4, i5, i6⟩
        · exact h2 (by rw [← heq]; exact i2 p hp hmp)
        · have := i5 p hp hmp (by rw [heq]; exact h2)
          rw [heq] at this
          omega
    · rename_i hc
      rcases ih with ⟨i1, i2⟩ | ⟨i1, i2, i3, i4, i5, i6⟩
      · left
        refine ⟨i1, fun p hp hmp => ?_⟩
        rcases (show p = k ∨ p < k by omega) with g | g
        · subst g
          apply Classical.byContradiction
          intro hne
          exact hc ⟨hmp, hne, .inl (by omega)⟩
        · exact i2 p g hmp
      · right
        refine ⟨i1, by omega, i3, i4, fun p hp hmp hne => ?_, i6⟩
        rcases (show p = k ∨ p < k by omega) with g | g
        · subst g
          have : ¬ (ge_x a (pt (hu_f pt mk a p).toNat) (pt p) < 0 ∨ (ge_x a (pt (hu_f pt mk a p).toNat) (pt p) = 0 ∧ hu_d a (pt (hu_f pt mk a p).toNat) < hu_d a (pt p))) := fun h => hc ⟨hmp, hne, .inr h⟩
          omega
        · exact i5 p g hmp hne
/-- the next corner has all points in one half plane too -/
theorem hu_next {pt : Nat → ge_P} {mk : Nat → Bool} {n : Nat} {a : ge_P} (hX : hu_X pt mk n a) {t : Int} (hT : hu_T pt mk a n t) (ht : 0 ≤ t) : hu_X pt mk n (pt t.toNat) := by
  rcases hT with ⟨h, -⟩ | ⟨-, h2, h3, h4, h5, -⟩
  · omega
  · obtain ⟨d, s, hs, hH⟩ := hX
    refine ⟨hu_v a (pt t.toNat), -1, .inr rfl, fun p hp hmp hne => ?_⟩
    have e1 : hu_cr (hu_v a (pt t.toNat)) (hu_v (pt t.toNat) (pt p)) = ge_x a (pt t.toNat) (pt p) := by unfold hu_cr hu_v ge_x; grind
    have hdd : 0 < hu_dot (hu_v a (pt t.toNat)) (hu_v a (pt t.toNat)) := by
      have q1 := hu_sq ((pt t.toNat).1 - a.1)
      have q2 := hu_sq ((pt t.toNat).2 - a.2)
      show 0 < ((pt t.toNat).1 - a.1) * ((pt t.toNat).1 - a.1) + ((pt t.toNat).2 - a.2) * ((pt t.toNat).2 - a.2)
      have : (pt t.toNat).1 - a.1 ≠ 0 ∨ (pt t.toNat).2 - a.2 ≠ 0 := by
        apply Classical.byContradiction
        intro hc
        apply h4
        exact Prod.ext (by omega) (by omega)
      rcases this with g | g
      · have := q1.2 g; omega
      · have := q2.2 g; omega
    by_cases hpa : pt p = a
    · right
      rw [hpa]
      have e2 : hu_cr (hu_v a (pt t.toNat)) (hu_v (pt t.toNat) a) = 0 := by unfold hu_cr hu_v; grind
      have e3 : hu_dot (hu_v a (pt t.toNat)) (hu_v (pt t.toNat) a) = - hu_dot (hu_v a (pt t.toNat)) (hu_v a (pt t.toNat)) := by unfold hu_dot hu_v; grind
      exact ⟨e2, by omega⟩
    · rcases h5 p hp hmp hpa with g | ⟨g1, g2⟩
      · left; omega
      · right
        refine ⟨by omega, ?_⟩
        have r := hu_ray hs (hH _ h2 h3 h4) (hH p hp hmp hpa) (by rw [hu_cr_x]; exact g1)
        have e3 : hu_dot (hu_v a (pt t.toNat)) (hu_v (pt t.toNat) (pt p)) = hu_dot (hu_v a (pt t.toNat)) (hu_v a (pt p)) - hu_dot (hu_v a (pt t.toNat)) (hu_v a (pt t.toNat)) := by unfold hu_dot hu_v; grind
        -- (u.v)^2 = |u|^2 |v|^2 <= |u|^4, and v is not u
        have h1 : hu_dot (hu_v a (pt t.toNat)) (hu_v a (pt t.toNat)) * hu_dot (hu_v a (pt p)) (hu_v a (pt p)) = hu_dot (hu_v a (pt t.toNat)) (hu_v a (pt p)) * hu_dot (hu_v a (pt t.toNat)) (hu_v a (pt p)) + hu_cr (hu_v a (pt t.toNat)) (hu_v a (pt p)) * hu_cr (hu_v a (pt t.toNat)) (hu_v a (pt p)) := by unfold hu_dot hu_cr; grind
        rw [hu_cr_x, g1] at h1
        rw [hu_d_dot, hu_d_dot] at g2
        generalize hA : hu_dot (hu_v a (pt t.toNat)) (hu_v a (pt t.toNat)) = A at *
        generalize hB : hu_dot (hu_v a (pt p)) (hu_v a (pt p)) = B at *
        generalize hC : hu_dot (hu_v a (pt t.toNat)) (hu_v a (pt p)) = C at *
        rcases Int.lt_or_le C A with q | q
        · omega
        · exfalso
          have m4 : A = B := hu_sqle hdd (by simpa using h1) q g2
          have := hu_same (u := hu_v a (pt t.toNat)) (v := hu_v a (pt p)) (by rw [hu_cr_x]; exact g1) (by omega) (by omega)
          exact hne (hu_v_eq this).symm
theorem hu_inj {pt : Nat → ge_P} {mk : Nat → Bool} {n : Nat} {i j : Nat} (hi : i < n) (mi : mk i = true) (hj : j < n) (mj : mk j = true) (Xi : hu_X pt mk n (pt i)) (Xj : hu_X pt mk n (pt j)) {t t' : Int} (ht : 0 ≤ t) (ht' : 0 ≤ t') (Ti : hu_T pt mk (pt i) n t) (Tj : hu_T pt mk (pt j) n t') (he : pt t.toNat = pt t'.toNat) : pt i = pt j := by
  apply Classical.byContradiction
  intro hne
  rcases Ti with ⟨h, -⟩ | ⟨-, a2, a3, a4, a5, -⟩
  · omega
  rcases Tj with ⟨h, -⟩ | ⟨-, b2, b3, b4, b5, -⟩
  · omega
  rw [← he] at b4 b5
  generalize hT : pt t.toNat = T at *
  have p1 := a5 j hj mj (Ne.symm hne)
  have p2 := b5 i hi mi hne
  have e : ge_x (pt j) T (pt i) = - ge_x (pt i) T (pt j) := by unfold ge_x; grind
  have z : ge_x (pt i) T (pt j) = 0 := by omega
  have z2 : ge_x (pt j) T (pt i) = 0 := by omega
  have d1 : hu_d (pt i) (pt j) ≤ hu_d (pt i) T := by omega
  obtain ⟨d, s, hs, hH⟩ := Xi
  obtain ⟨d', s', hs', hH'⟩ := Xj
  have r1 := hu_ray hs (by have := hH _ a2 a3 (by rw [hT]; exact a4); rw [hT] at this; exact this) (hH j hj mj (Ne.symm hne)) (by rw [hu_cr_x]; exact z)
  have r2 := hu_ray hs' (by have := hH' t.toNat a2 a3 (by rw [hT]; exact b4); rw [hT] at this; exact this) (hH' i hi mi hne) (by rw [hu_cr_x]; exact z2)
  -- u = j - i, w = T - i
  have c1 : hu_dot (hu_v (pt j) T) (hu_v (pt j) (pt i)) = hu_d (pt i) (pt j) - hu_dot (hu_v (pt i) T) (hu_v (pt i) (pt j)) := by unfold hu_dot hu_v hu_d; grind
  have c2 : hu_d (pt i) T * hu_d (pt i) (pt j) = hu_dot (hu_v (pt i) T) (hu_v (pt i) (pt j)) * hu_dot (hu_v (pt i) T) (hu_v (pt i) (pt j)) + ge_x (pt i) T (pt j) * ge_x (pt i) T (pt j) := by unfold hu_dot hu_v hu_d ge_x; grind
  rw [z] at c2
  have q1 := hu_sq ((pt j).1 - (pt i).1)
  have q2 := hu_sq ((pt j).2 - (pt i).2)
  have c3 : 0 ≤ hu_d (pt i) (pt j) := by unfold hu_d; omega
  generalize hu_d (pt i) (pt j) = U at *
  generalize hu_d (pt i) T = V at *
  generalize hu_dot (hu_v (pt i) T) (hu_v (pt i) (pt j)) = C at *
  have g : C < U := by omega
  have m1 := Int.mul_pos (show 0 < U - C by omega) (show 0 < U + C by omega)
  have m2 := Int.mul_nonneg c3 (show 0 ≤ V - U by omega)
  grind
theorem hu_pigeon : ∀ (n : Nat) (f : Nat → Nat), (∀ i, i ≤ n → f i < n) → ∃ i j, i < j ∧ j ≤ n ∧ f i = f j
  | 0, f, h => absurd (h 0 (Nat.le_refl _)) (by omega)
  | n + 1, f, h => by
    by_cases hc : ∃ i, i ≤ n ∧ f i = f (n + 1)
    · obtain ⟨i, h1, h2⟩ := hc
      exact ⟨i, n + 1, by omega, by omega, h2⟩
    · have hc' : ∀ i, i ≤ n → f i ≠ f (n + 1) := fun i hi he => hc ⟨i, hi, he⟩
      obtain ⟨i, j, h1, h2, h3⟩ := hu_pigeon n (fun i => if f i = n then f (n + 1) else f i) (fun i hi => by
        have a1 := h i (by omega)
        have a2 := h (n + 1) (by omega)
        have a3 := hc' i hi
        split <;> omega)
      refine ⟨i, j, h1, by omega, ?_⟩
      have b1 := hc' i (by omega)
      have b2 := hc' j (by omega)
      split at h3 <;> split at h3 <;> omega
/-- the first corner among the first k points -/
def hu_1 (pt : Nat → ge_P) (mk : Nat → Bool) : Nat → Int
  | 0 => -1
  | k + 1 => if mk k = true ∧ (hu_1 pt mk k < 0 ∨ ((pt k).2 < (pt (hu_1 pt mk k).toNat).2 ∨ ((pt k).2 = (pt (hu_1 pt mk k).toNat).2 ∧ (pt k).1 < (pt (hu_1 pt mk k).toNat).1))) then (k : Int) else hu_1 pt mk k
def hu_T1 (pt : Nat → ge_P) (mk : Nat → Bool) (k : Nat) (f : Int) : Prop := (f = -1 ∧ ∀ p, p < k → mk p = false) ∨ (0 ≤ f ∧ f.toNat < k ∧ mk f.toNat = true ∧ (∀ p, p < k → mk p = true → pt p ≠ pt f.toNat → ge_lt (pt f.toNat) (pt p)) ∧ ∀ p, p < f.toNat → mk p = true → pt p ≠ pt f.toNat)
theorem hu_1_ok (pt : Nat → ge_P) (mk : Nat → Bool) : ∀ k, hu_T1 pt mk k (hu_1 pt mk k) := by
  intro k
  induction k with
  | zero => left; exact ⟨rfl, fun p hp => by omega⟩
  | succ k ih =>
    show hu_T1 pt mk (k + 1) (if _ then _ else _)
    have tot : ∀ a b : ge_P, a ≠ b → ge_lt a b ∨ ge_lt b a := by
      intro a b h
      have : a.1 ≠ b.1 ∨ a.2 ≠ b.2 := by
        by_cases h1 : a.1 = b.1
        · exact .inr (fun h2 => h (Prod.ext h1 h2))
        · exact .inl h1
      unfold ge_lt; omega
    split
    · rename_i hc
      obtain ⟨h1, h2⟩ := hc
      right
      have ek : ((k : Int)).toNat = k := by omega
      rw [ek]
      refine ⟨by omega, by omega, h1, ?_, ?_⟩
      · intro p hp hmp hne
        rcases (show p = k ∨ p < k by omega) with g | g
        · subst g; exact absurd rfl hne
        · rcases ih with ⟨i1, i2⟩ | ⟨i1, i2, i3, i4, i5⟩
          · have := i2 p g; rw [hmp] at this; cases this
          · by_cases hpf : pt p = pt (hu_1 pt mk k).toNat
            · rw [hpf]; unfold ge_lt; omega
            · have := i4 p g hmp hpf
              unfold ge_lt at *; omega
      · intro p hp hmp heq
        rcases ih with ⟨i1, i2⟩ | ⟨i1, i2, i3, i4, i5⟩
        · have := i2 p hp; rw [hmp] at this; cases this
        · by_cases hpf : pt p = pt (hu_1 pt mk k).toNat
          · rw [← hpf, heq] at h2; omega
          · have := i4 p hp hmp hpf
            rw [heq] at this
            unfold ge_lt at this; omega
    · rename_i hc
      rcases ih with ⟨i1, i2⟩ | ⟨i1, i2, i3, i4, i5⟩
      · left
        refine ⟨i1, fun p hp => ?_⟩
        rcases (show p = k ∨ p < k by omega) with g | g
        · subst g
          cases hm : mk p with
          | false => rfl
          | true => exact absurd ⟨hm, .inl (by omega)⟩ hc
        · exact i2 p g
      · right
        refine ⟨i1, by omega, i3, fun p hp hmp hne => ?_, i5⟩
        rcases (show p = k ∨ p < k by omega) with g | g
        · subst g
          have n1 : ¬ ((pt p).2 < (pt (hu_1 pt mk p).toNat).2 ∨ ((pt p).2 = (pt (hu_1 pt mk p).toNat).2 ∧ (pt p).1 < (pt (hu_1 pt mk p).toNat).1)) := fun h => hc ⟨hmp, .inr h⟩
          rcases tot _ _ hne with q | q
          · exact absurd q n1
          · exact q
        · exact i4 p g hmp hne
theorem hu_1_X {pt : Nat → ge_P} {mk : Nat → Bool} {n : Nat} {f : Int} (h : hu_T1 pt mk n f) (hf : 0 ≤ f) : hu_X pt mk n (pt f.toNat) := by
  rcases h with ⟨h, -⟩ | ⟨-, h2, h3, h4, -⟩
  · omega
  · refine ⟨(1, 0), 1, .inl rfl, fun p hp hmp hne => ?_⟩
    have := h4 p hp hmp hne
    unfold hu_H hu_cr hu_dot hu_v
    unfold ge_lt at this
    dsimp only
    omega
/-- the walk round -/
def hu_w (pt : Nat → ge_P) (mk : Nat → Bool) (n : Nat) : Nat → Int
  | 0 => hu_1 pt mk n
  | k + 1 => if hu_w pt mk n k < 0 ∨ hu_f pt mk (pt (hu_w pt mk n k).toNat) n < 0 ∨ pt (hu_f pt mk (pt (hu_w pt mk n k).toNat) n).toNat = pt (hu_1 pt mk n).toNat then -1 else hu_f pt mk (pt (hu_w pt mk n k).toNat) n
theorem hu_w_ok (pt : Nat → ge_P) (mk : Nat → Bool) (n : Nat) : ∀ k, 0 ≤ hu_w pt mk n k → (hu_w pt mk n k).toNat < n ∧ mk (hu_w pt mk n k).toNat = true ∧ hu_X pt mk n (pt (hu_w pt mk n k).toNat) ∧ ∀ p, p < (hu_w pt mk n k).toNat → mk p = true → pt p ≠ pt (hu_w pt mk n k).toNat := by
  intro k
  induction k with
  | zero =>
    intro h
    have h1 := hu_1_ok pt mk n
    have hX := hu_1_X h1 h
    rcases h1 with ⟨g, -⟩ | ⟨-, g2, g3, -, g5⟩
    · have : hu_w pt mk n 0 = hu_1 pt mk n := rfl
      omega
    · exact ⟨g2, g3, hX, g5⟩
  | succ k ih =>
    intro h
    have e : hu_w pt mk n (k + 1) = if hu_w pt mk n k < 0 ∨ hu_f pt mk (pt (hu_w pt mk n k).toNat) n < 0 ∨ pt (hu_f pt mk (pt (hu_w pt mk n k).toNat) n).toNat = pt (hu_1 pt mk n).toNat then -1 else hu_f pt mk (pt (hu_w pt mk n k).toNat) n := rfl
    rw [e] at h ⊢
    split at h
    · omega
    · rename_i hc
      rw [if_neg hc]
      have hk : 0 ≤ hu_w pt mk n k := by omega
      obtain ⟨i1, i2, i3, i4⟩ := ih hk
      have hT := hu_f_ok i3 n (Nat.le_refl _)
      have hX := hu_next i3 hT h
      rcases hT with ⟨g, -⟩ | ⟨-, g2, g3, -, -, g6⟩
      · omega
      · exact ⟨g2, g3, hX, g6⟩
theorem hu_w_back {pt : Nat → ge_P} {mk : Nat → Bool} {n k : Nat} (h : 0 ≤ hu_w pt mk n (k + 1)) : 0 ≤ hu_w pt mk n k ∧ hu_w pt mk n (k + 1) = hu_f pt mk (pt (hu_w pt mk n k).toNat) n ∧ pt (hu_w pt mk n (k + 1)).toNat ≠ pt (hu_w pt mk n 0).toNat := by
  have e : hu_w pt mk n (k + 1) = if hu_w pt mk n k < 0 ∨ hu_f pt mk (pt (hu_w pt mk n k).toNat) n < 0 ∨ pt (hu_f pt mk (pt (hu_w pt mk n k).toNat) n).toNat = pt (hu_1 pt mk n).toNat then -1 else hu_f pt mk (pt (hu_w pt mk n k).toNat) n := rfl
  rw [e] at h
  split at h
  · omega
  · rename_i hc
    rw [e, if_neg hc]
    refine ⟨by omega, rfl, fun q => hc (.inr (.inr q))⟩
theorem hu_w_ne (pt : Nat → ge_P) (mk : Nat → Bool) (n : Nat) : ∀ i j, i < j → 0 ≤ hu_w pt mk n j → 0 ≤ hu_w pt mk n i ∧ pt (hu_w pt mk n i).toNat ≠ pt (hu_w pt mk n j).toNat := by
  intro i
  induction i with
  | zero =>
    intro j hj h
    obtain ⟨j', rfl⟩ : ∃ j', j = j' + 1 := ⟨j - 1, by omega⟩
    have h0 : ∀ k, 0 ≤ hu_w pt mk n k → 0 ≤ hu_w pt mk n 0 := by
      intro k
      induction k with
      | zero => exact id
      | succ k ih => intro h; exact ih (hu_w_back h).1
    exact ⟨h0 _ h, (hu_w_back h).2.2.symm⟩
  | succ i ih =>
    intro j hj h
    obtain ⟨j', rfl⟩ : ∃ j', j = j' + 1 := ⟨j - 1, by omega⟩
    have bj := hu_w_back h
    have step : 0 ≤ hu_w pt mk n (i + 1) := by
      have : ∀ d k, 0 ≤ hu_w pt mk n (k + d) → 0 ≤ hu_w pt mk n k := by
        intro d
        induction d with
        | zero => intro k; exact id
        | succ d ihd => intro k hk; exact ihd k (hu_w_back (k := k + d) hk).1
      have hh : j' + 1 = (i + 1) + (j' - i) := by omega
      rw [hh] at h
      exact this _ _ h
    refine ⟨step, fun heq => ?_⟩
    have bi := hu_w_back step
    have I := ih j' (by omega) bj.1
    obtain ⟨a1, a2, a3, -⟩ := hu_w_ok pt mk n i bi.1
    obtain ⟨b1, b2, b3, -⟩ := hu_w_ok pt mk n j' bj.1
    have Ti := hu_f_ok a3 n (Nat.le_refl _)
    have Tj := hu_f_ok b3 n (Nat.le_refl _)
    rw [← bi.2.1] at Ti
    rw [← bj.2.1] at Tj
    exact I.2 (hu_inj a1 a2 b1 b2 a3 b3 step h Ti Tj heq)
/-- the walk comes to its end -/
theorem hu_w_end (pt : Nat → ge_P) (mk : Nat → Bool) (n : Nat) : hu_w pt mk n n < 0 := by
  apply Classical.byContradiction
  intro h
  have h : 0 ≤ hu_w pt mk n n := by omega
  have all : ∀ i, i ≤ n → 0 ≤ hu_w pt mk n i := by
    intro i hi
    rcases (show i = n ∨ i < n by omega) with g | g
    · subst g; exact h
    · exact (hu_w_ne pt mk n i n g h).1
  obtain ⟨i, j, h1, h2, h3⟩ := hu_pigeon n (fun i => (hu_w pt mk n i).toNat) (fun i hi => (hu_w_ok pt mk n i (all i hi)).1)
  exact (hu_w_ne pt mk n i j h1 (all j h2)).2 (by rw [h3])
/-- at the last corner: nothing but it, or the first corner, by its number -/
theorem hu_w_last {pt : Nat → ge_P} {mk : Nat → Bool} {n k : Nat} (h : 0 ≤ hu_w pt mk n k) (h1 : hu_w pt mk n (k + 1) < 0) : hu_f pt mk (pt (hu_w pt mk n k).toNat) n = -1 ∨ hu_f pt mk (pt (hu_w pt mk n k).toNat) n = hu_w pt mk n 0 := by
  have e : hu_w pt mk n (k + 1) = if hu_w pt mk n k < 0 ∨ hu_f pt mk (pt (hu_w pt mk n k).toNat) n < 0 ∨ pt (hu_f pt mk (pt (hu_w pt mk n k).toNat) n).toNat = pt (hu_1 pt mk n).toNat then -1 else hu_f pt mk (pt (hu_w pt mk n k).toNat) n := rfl
  obtain ⟨a1, a2, a3, -⟩ := hu_w_ok pt mk n k h
  have hT := hu_f_ok a3 n (Nat.le_refl _)
  rw [e] at h1
  split at h1
  · rename_i hc
    rcases hT with ⟨g, -⟩ | ⟨g1, g2, g3, -, -, g6⟩
    · exact .inl g
    · right
      have hp : pt (hu_f pt mk (pt (hu_w pt mk n k).toNat) n).toNat = pt (hu_1 pt mk n).toNat := by
        rcases hc with q | q | q
        · omega
        · omega
        · exact q
      have h0 : 0 ≤ hu_w pt mk n 0 := by
        rcases (show k = 0 ∨ 0 < k by omega) with q | q
        · subst q; exact h
        · exact (hu_w_ne pt mk n 0 k q h).1
      obtain ⟨b1, b2, -, b4⟩ := hu_w_ok pt mk n 0 h0
      have e0 : hu_w pt mk n 0 = hu_1 pt mk n := rfl
      rw [e0] at b1 b2 b4 h0 ⊢
      have c1 : ¬ (hu_f pt mk (pt (hu_w pt mk n k).toNat) n).toNat < (hu_1 pt mk n).toNat := fun q => b4 _ q g3 hp
      have c2 : ¬ (hu_1 pt mk n).toNat < (hu_f pt mk (pt (hu_w pt mk n k).toNat) n).toNat := fun q => g6 _ q b2 hp.symm
      omega
  · omega
