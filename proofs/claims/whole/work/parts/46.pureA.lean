/-! loops as folds; where points lie -/
def fo {α : Type} (f : Nat → α → α) (a : α) (s : Nat) : Nat → α
  | 0 => a
  | e + 1 => if s ≤ e then f e (fo f a s e) else a
theorem fo_0 {α : Type} {f : Nat → α → α} {a : α} {s e : Nat} (h : e ≤ s) : fo f a s e = a := by
  cases e with
  | zero => rfl
  | succ e => exact if_neg (by omega)
theorem fo_s {α : Type} {f : Nat → α → α} {a : α} {s e : Nat} (h : s ≤ e) : fo f a s (e + 1) = f e (fo f a s e) := if_pos h
theorem fo_congr {α : Type} {f g : Nat → α → α} {a : α} {s e : Nat} (h : ∀ j x, s ≤ j → j < e → f j x = g j x) : fo f a s e = fo g a s e := by
  induction e with
  | zero => rfl
  | succ e ih =>
    rcases (show e < s ∨ s ≤ e by omega) with q | q
    · rw [fo_0 (by omega), fo_0 (by omega)]
    · rw [fo_s q, fo_s q, ih (fun j x h1 h2 => h j x h1 (by omega)), h e _ q (by omega)]
def su (g : Nat → Int) (s e : Nat) : Int := fo (fun j x => x + g j) 0 s e
theorem su_0 {g : Nat → Int} {s e : Nat} (h : e ≤ s) : su g s e = 0 := fo_0 h
theorem su_s {g : Nat → Int} {s e : Nat} (h : s ≤ e) : su g s (e + 1) = su g s e + g e := fo_s h
theorem su_congr {g g' : Nat → Int} {s e : Nat} (h : ∀ j, s ≤ j → j < e → g j = g' j) : su g s e = su g' s e := fo_congr (fun j x h1 h2 => by rw [h j h1 h2])
theorem su_add (g g' : Nat → Int) (s e : Nat) : su (fun j => g j + g' j) s e = su g s e + su g' s e := by
  induction e with
  | zero => rfl
  | succ e ih =>
    rcases (show e < s ∨ s ≤ e by omega) with q | q
    · rw [su_0 (by omega), su_0 (by omega), su_0 (by omega)]; rfl
    · rw [su_s q, su_s q, su_s q, ih]; omega
theorem su_b {g : Nat → Int} {s e : Nat} {A B : Int} (hA : A ≤ 0) (hB : 0 ≤ B) (h : ∀ j, s ≤ j → j < e → A ≤ g j ∧ g j ≤ B) : A * e ≤ su g s e ∧ su g s e ≤ B * e := by
  induction e with
  | zero => rw [su_0 (by omega)]; simp
  | succ e ih =>
    have h1 : A * ((e + 1 : Nat) : Int) = A * e + A := by rw [Int.natCast_add, Int.mul_add]; simp
    have h2 : B * ((e + 1 : Nat) : Int) = B * e + B := by rw [Int.natCast_add, Int.mul_add]; simp
    have := ih (fun j h1 h2 => h j h1 (by omega))
    rcases (show e < s ∨ s ≤ e by omega) with q | q
    · rw [su_0 (by omega)] at this ⊢
      omega
    · have := h e q (by omega)
      rw [su_s q]
      omega
theorem su_shift (g : Nat → Int) (s e : Nat) : su (fun i => g (i + 1)) s e = su g (s + 1) (e + 1) := by
  induction e with
  | zero => rw [su_0 (by omega), su_0 (by omega)]
  | succ e ih =>
    rcases (show e < s ∨ s ≤ e by omega) with q | q
    · rw [su_0 (by omega), su_0 (by omega)]
    · rw [su_s q, su_s (by omega), ih]
def pa (pt : Nat → ge_P) (i k : Nat) : Int := if pt i = pt k then 1 else 0
theorem pa_symm (pt : Nat → ge_P) (i k : Nat) : pa pt i k = pa pt k i := by
  unfold pa
  by_cases h : pt i = pt k
  · rw [if_pos h, if_pos h.symm]
  · rw [if_neg h, if_neg (fun g => h g.symm)]
theorem pa_b (pt : Nat → ge_P) (i k : Nat) : 0 ≤ pa pt i k ∧ pa pt i k ≤ 1 := by
  unfold pa
  split <;> omega
theorem pa_more (pt : Nat → ge_P) {m n : Nat} (h : n ≤ m) : su (fun i => su (pa pt i) (i + 1) (m + 1)) 0 n = su (fun i => su (pa pt i) (i + 1) m) 0 n + su (fun i => pa pt i m) 0 n := by
  rw [← su_add]
  exact su_congr (fun j _ h2 => su_s (by omega))
/-- pairs, counted from both ends -/
theorem pa_eq (pt : Nat → ge_P) (n : Nat) : su (fun i => su (pa pt i) (i + 1) n) 0 n = su (fun i => su (pa pt i) 0 i) 0 n := by
  induction n with
  | zero => rfl
  | succ n ih =>
    rw [su_s (g := fun i => su (pa pt i) (i + 1) (n + 1)) (Nat.zero_le n), su_s (g := fun i => su (pa pt i) 0 i) (Nat.zero_le n), pa_more pt (Nat.le_refl _), ih, su_0 (s := n + 1) (Nat.le_refl _)]
    rw [su_congr (g := fun i => pa pt i n) (g' := pa pt n) (fun j _ _ => pa_symm pt j n)]
    omega
/-! a place on a segment -/
abbrev ge_am (v a b : Int) : Prop := (a ≤ v ∧ v ≤ b) ∨ (b ≤ v ∧ v ≤ a)
abbrev ge_on (a b p : ge_P) : Prop := ge_x a b p = 0 ∧ ge_am p.1 a.1 b.1 ∧ ge_am p.2 a.2 b.2
theorem ge_am_mul (v a b : Int) : ge_am v a b ↔ (a - v) * (b - v) ≤ 0 := by
  constructor
  · rintro (⟨h1, h2⟩ | ⟨h1, h2⟩)
    · have := Int.mul_nonneg (show 0 ≤ v - a by omega) (show 0 ≤ b - v by omega)
      have e : (v - a) * (b - v) = - ((a - v) * (b - v)) := by grind
      omega
    · have := Int.mul_nonneg (show 0 ≤ a - v by omega) (show 0 ≤ v - b by omega)
      have e : (a - v) * (v - b) = - ((a - v) * (b - v)) := by grind
      omega
  · intro h
    apply Classical.byContradiction
    intro hn
    rcases (show (0 < a - v ∧ 0 < b - v) ∨ (0 < v - a ∧ 0 < v - b) by omega) with g | g
    · have := Int.mul_pos g.1 g.2; omega
    · have := Int.mul_pos g.1 g.2
      have e : (v - a) * (v - b) = (a - v) * (b - v) := by grind
      omega
theorem ge_par {u1 u2 v1 v2 : Int} (hx : u1 * v2 = u2 * v1) (hd : u1 * v1 + u2 * v2 ≤ 0) : u1 * v1 ≤ 0 ∧ u2 * v2 ≤ 0 := by
  have e : (u1 * v1) * (u2 * v2) = (u1 * v2) * (u1 * v2) := by
    have : (u1 * v1) * (u2 * v2) = (u1 * v2) * (u2 * v1) := by grind
    rw [this, ← hx]
  have q := (hu_sq (u1 * v2)).1
  constructor
  · apply Classical.byContradiction; intro g
    have := Int.mul_pos (show 0 < u1 * v1 by omega) (show 0 < -(u2 * v2) by omega)
    have e2 : (u1 * v1) * (-(u2 * v2)) = - ((u1 * v1) * (u2 * v2)) := by grind
    omega
  · apply Classical.byContradiction; intro g
    have := Int.mul_pos (show 0 < -(u1 * v1) by omega) (show 0 < u2 * v2 by omega)
    have e2 : (-(u1 * v1)) * (u2 * v2) = - ((u1 * v1) * (u2 * v2)) := by grind
    omega
theorem ge_on_iff (a b p : ge_P) : (ge_x a b p = 0 ∧ ge_dot p a b ≤ 0) ↔ ge_on a b p := by
  have ex : ge_x a b p = (a.1 - p.1) * (b.2 - p.2) - (a.2 - p.2) * (b.1 - p.1) := by unfold ge_x; grind
  have ed : ge_dot p a b = (a.1 - p.1) * (b.1 - p.1) + (a.2 - p.2) * (b.2 - p.2) := rfl
  have m1 := ge_am_mul p.1 a.1 b.1
  have m2 := ge_am_mul p.2 a.2 b.2
  constructor
  · intro ⟨h1, h2⟩
    have := ge_par (u1 := a.1 - p.1) (u2 := a.2 - p.2) (v1 := b.1 - p.1) (v2 := b.2 - p.2) (by omega) (by omega)
    exact ⟨h1, m1.mpr this.1, m2.mpr this.2⟩
  · intro ⟨h1, h2, h3⟩
    have h2 := m1.mp h2
    have h3 := m2.mp h3
    exact ⟨h1, by omega⟩
theorem hu_d_pos {a b : ge_P} (h : a ≠ b) : 0 < hu_d a b := by
  have q1 := hu_sq (b.1 - a.1)
  have q2 := hu_sq (b.2 - a.2)
  unfold hu_d
  rcases (show b.1 - a.1 ≠ 0 ∨ b.2 - a.2 ≠ 0 from Classical.byContradiction (fun g => h (Prod.ext (by omega) (by omega)))) with g | g
  · have := q1.2 g; omega
  · have := q2.2 g; omega
theorem hu_d_0 (a : ge_P) : hu_d a a = 0 := by unfold hu_d; grind
/-- a way that folds back -/
theorem ge_fold_iff (a b d : ge_P) : (ge_x b a d = 0 ∧ 0 < ge_dot b a d) ↔ ((a ≠ b ∧ ge_on b d a) ∨ (d ≠ b ∧ ge_on a b d)) := by
  have o1 := ge_on_iff b d a
  have o2 := ge_on_iff a b d
  have x1 : ge_x b d a = - ge_x b a d := by unfold ge_x; grind
  have x2 : ge_x a b d = - ge_x b a d := by unfold ge_x; grind
  have d1 : ge_dot a b d = hu_d b a - ge_dot b a d := by unfold ge_dot hu_d; grind
  have d2 : ge_dot d a b = hu_d b d - ge_dot b a d := by unfold ge_dot hu_d; grind
  rw [← o1, ← o2, x1, x2, d1, d2]
  constructor
  · intro ⟨h1, h2⟩
    have na : a ≠ b := by
      intro g; subst g
      have : ge_dot a a d = 0 := by unfold ge_dot; grind
      omega
    have nd : d ≠ b := by
      intro g; subst g
      have : ge_dot d a d = 0 := by unfold ge_dot; grind
      omega
    rcases (show hu_d b a - ge_dot b a d ≤ 0 ∨ hu_d b d - ge_dot b a d ≤ 0 ∨ (0 < hu_d b a - ge_dot b a d ∧ 0 < hu_d b d - ge_dot b a d) by omega) with g | g | ⟨g1, g2⟩
    · exact .inl ⟨na, by omega, g⟩
    · exact .inr ⟨nd, by omega, g⟩
    · exfalso
      have la : ge_dot b a d * ge_dot b a d = hu_d b a * hu_d b d - ge_x b a d * ge_x b a d := by unfold ge_dot hu_d ge_x; grind
      rw [h1] at la
      have p1 := Int.mul_pos g1 (show 0 < hu_d b d by omega)
      have p2 := Int.mul_pos h2 g2
      have e1 : (hu_d b a - ge_dot b a d) * hu_d b d = hu_d b a * hu_d b d - ge_dot b a d * hu_d b d := by grind
      have e2 : ge_dot b a d * (hu_d b d - ge_dot b a d) = ge_dot b a d * hu_d b d - ge_dot b a d * ge_dot b a d := by grind
      omega
  · rintro (⟨h1, h2, h3⟩ | ⟨h1, h2, h3⟩)
    · have := hu_d_pos (Ne.symm h1)
      exact ⟨by omega, by omega⟩
    · have := hu_d_pos (Ne.symm h1)
      exact ⟨by omega, by omega⟩
/-! two segments -/
def sg (v : Int) : Int := if 0 < v then 1 else if v < 0 then -1 else 0
theorem sg_v (v : Int) : (0 < v ∧ sg v = 1) ∨ (v < 0 ∧ sg v = -1) ∨ (v = 0 ∧ sg v = 0) := by
  unfold sg
  split
  · exact .inl ⟨by assumption, rfl⟩
  · split
    · exact .inr (.inl ⟨by assumption, rfl⟩)
    · exact .inr (.inr ⟨by omega, rfl⟩)
theorem sg_b (a b : Int) : -1 ≤ sg a * sg b ∧ sg a * sg b ≤ 1 := by
  rcases sg_v a with ⟨-, e⟩ | ⟨-, e⟩ | ⟨-, e⟩ <;> rcases sg_v b with ⟨-, f⟩ | ⟨-, f⟩ | ⟨-, f⟩ <;> rw [e, f] <;> decide
theorem sg_lt (a b : Int) : sg a * sg b < 0 ↔ ((0 < a ∧ b < 0) ∨ (a < 0 ∧ 0 < b)) := by
  rcases sg_v a with ⟨p, e⟩ | ⟨p, e⟩ | ⟨p, e⟩ <;> rcases sg_v b with ⟨q, f⟩ | ⟨q, f⟩ | ⟨q, f⟩ <;> rw [e, f] <;> omega
theorem sg_le (a b : Int) : sg a * sg b ≤ 0 ↔ ((0 ≤ a ∧ b ≤ 0) ∨ (a ≤ 0 ∧ 0 ≤ b)) := by
  rcases sg_v a with ⟨p, e⟩ | ⟨p, e⟩ | ⟨p, e⟩ <;> rcases sg_v b with ⟨q, f⟩ | ⟨q, f⟩ | ⟨q, f⟩ <;> rw [e, f] <;> omega
abbrev ge_bx (a b e f : Int) : Prop := (a ≤ e ∨ a ≤ f ∨ b ≤ e ∨ b ≤ f) ∧ (e ≤ a ∨ e ≤ b ∨ f ≤ a ∨ f ≤ b)
abbrev ge_sh (a b e f : ge_P) : Prop := (ge_bx a.1 b.1 e.1 f.1 ∧ ge_bx a.2 b.2 e.2 f.2) ∧ sg (ge_x a b e) * sg (ge_x a b f) ≤ 0 ∧ sg (ge_x e f a) * sg (ge_x e f b) ≤ 0
abbrev ge_sm (a b e f : ge_P) : Prop := (sg (ge_x a b e) * sg (ge_x a b f) < 0 ∧ sg (ge_x e f a) * sg (ge_x e f b) < 0) ∨ ge_on a b e ∨ ge_on a b f ∨ ge_on e f a ∨ ge_on e f b
/-- a place on a segment, with weights -/
theorem ge_on_wt {a b e : ge_P} (h : ge_on a b e) : ∃ i j k : Int, 0 ≤ i ∧ 0 ≤ j ∧ 0 < k ∧ i + j = k ∧ i * a.1 + j * b.1 = k * e.1 ∧ i * a.2 + j * b.2 = k * e.2 := by
  obtain ⟨hx, h1, h2⟩ := h
  unfold ge_x at hx
  rcases (show a.1 < b.1 ∨ b.1 < a.1 ∨ (a.1 = b.1 ∧ a.2 < b.2) ∨ (a.1 = b.1 ∧ b.2 < a.2) ∨ (a.1 = b.1 ∧ a.2 = b.2) by omega) with g | g | g | g | g
  · exact ⟨b.1 - e.1, e.1 - a.1, b.1 - a.1, by omega, by omega, by omega, by omega, by grind, by grind⟩
  · exact ⟨e.1 - b.1, a.1 - e.1, a.1 - b.1, by omega, by omega, by omega, by omega, by grind, by grind⟩
  · have e1 : e.1 = a.1 := by omega
    exact ⟨b.2 - e.2, e.2 - a.2, b.2 - a.2, by omega, by omega, by omega, by omega, by rw [e1, ← g.1]; grind, by grind⟩
  · have e1 : e.1 = a.1 := by omega
    exact ⟨e.2 - b.2, a.2 - e.2, a.2 - b.2, by omega, by omega, by omega, by omega, by rw [e1, ← g.1]; grind, by grind⟩
  · have e1 : e.1 = a.1 := by omega
    have e2 : e.2 = a.2 := by omega
    exact ⟨1, 0, 1, by omega, by omega, by omega, by omega, by omega, by omega⟩
theorem ge_on_meet {a b e : ge_P} (f : ge_P) (h : ge_on a b e) : ge_meet a b e f := by
  obtain ⟨i, j, k, h1, h2, h3, h4, h5, h6⟩ := ge_on_wt h
  exact ⟨i, j, k, 0, h1, h2, by omega, by omega, by omega, by omega, by omega, by omega⟩
theorem ge_sm_meet {a b e f : ge_P} (h : ge_sm a b e f) : ge_meet a b e f := by
  rcases h with ⟨h1, h2⟩ | h | h | h | h
  · rw [sg_lt] at h1 h2
    have hD := ge_x_D a b e f
    rcases h2 with ⟨h2, h3⟩ | ⟨h2, h3⟩
    · exact ge_meet_of (by omega) (by omega) (by omega) (by omega) (by omega)
    · exact ge_meet_of' (by omega) (by omega) (by omega) (by omega) (by omega)
  · exact ge_on_meet f h
  · exact ge_meet_swap2 (ge_on_meet e h)
  · exact ge_meet_symm (ge_on_meet b h)
  · exact ge_meet_symm (ge_meet_swap2 (ge_on_meet a h))
theorem ge_wt_bx {a b e f i j k l : Int} (i0 : 0 ≤ i) (j0 : 0 ≤ j) (k0 : 0 ≤ k) (l0 : 0 ≤ l) (hp : 0 < i + j) (hs : i + j = k + l) (h : i * a + j * b = k * e + l * f) : a ≤ e ∨ a ≤ f ∨ b ≤ e ∨ b ≤ f := by
  apply Classical.byContradiction
  intro hn
  have key : ∀ m : Int, e ≤ m → f ≤ m → m < a → m < b → False := by
    intro m h1 h2 h3 h4
    have q1 := Int.mul_nonneg i0 (show 0 ≤ a - m - 1 by omega)
    have q2 := Int.mul_nonneg j0 (show 0 ≤ b - m - 1 by omega)
    have q3 := Int.mul_nonneg k0 (show 0 ≤ m - e by omega)
    have q4 := Int.mul_nonneg l0 (show 0 ≤ m - f by omega)
    have e1 : i * (a - m - 1) = i * a - i * m - i := by grind
    have e2 : j * (b - m - 1) = j * b - j * m - j := by grind
    have e3 : k * (m - e) = k * m - k * e := by grind
    have e4 : l * (m - f) = l * m - l * f := by grind
    have e5 : i * m + j * m = k * m + l * m := by rw [← Int.add_mul, ← Int.add_mul, hs]
    omega
  rcases (show e ≤ f ∨ f ≤ e by omega) with g | g
  · exact key f g (Int.le_refl _) (by omega) (by omega)
  · exact key e (Int.le_refl _) g (by omega) (by omega)
theorem ge_wt_sg {k l s t : Int} (k0 : 0 ≤ k) (l0 : 0 ≤ l) (hp : 0 < k + l) (h : k * s + l * t = 0) : sg s * sg t ≤ 0 := by
  rw [sg_le]
  apply Classical.byContradiction
  intro hn
  rcases (show (0 < s ∧ 0 < t) ∨ (s < 0 ∧ t < 0) by omega) with ⟨g1, g2⟩ | ⟨g1, g2⟩
  · have q1 := Int.mul_nonneg k0 (show 0 ≤ s - 1 by omega)
    have q2 := Int.mul_nonneg l0 (show 0 ≤ t - 1 by omega)
    have e1 : k * (s - 1) = k * s - k := by grind
    have e2 : l * (t - 1) = l * t - l := by grind
    omega
  · have q1 := Int.mul_nonneg k0 (show 0 ≤ - s - 1 by omega)
    have q2 := Int.mul_nonneg l0 (show 0 ≤ - t - 1 by omega)
    have e1 : k * (- s - 1) = - (k * s) - k := by grind
    have e2 : l * (- t - 1) = - (l * t) - l := by grind
    omega
theorem ge_meet_sh {a b e f : ge_P} (h : ge_meet a b e f) : ge_sh a b e f := by
  obtain ⟨i, j, k, l, h⟩ := h
  have a1 := ge_aff h a b
  have a2 := ge_aff (ge_wt_symm h) e f
  obtain ⟨i0, j0, k0, l0, hp, hs, hx, hy⟩ := h
  have z1 := ge_x_00 a b
  have z2 := ge_x_00 e f
  rw [z1.1, z1.2.1] at a1
  rw [z2.1, z2.2.1] at a2
  have c1 := ge_wt_bx i0 j0 k0 l0 hp hs hx
  have c2 := ge_wt_bx k0 l0 i0 j0 (by omega) hs.symm hx.symm
  have c3 := ge_wt_bx i0 j0 k0 l0 hp hs hy
  have c4 := ge_wt_bx k0 l0 i0 j0 (by omega) hs.symm hy.symm
  exact ⟨⟨⟨c1, c2⟩, ⟨c3, c4⟩⟩, ge_wt_sg k0 l0 (by omega) (by omega), ge_wt_sg i0 j0 hp (by omega)⟩
theorem ge_wt_on {a b e f : ge_P} {i j k l : Int} (h : ge_wt a b e f i j k l) (hl : l = 0) : ge_on a b e := by
  have a1 := ge_aff h a b
  have z1 := ge_x_00 a b
  rw [z1.1, z1.2.1, hl] at a1
  obtain ⟨i0, j0, k0, l0, hp, hs, hx, hy⟩ := h
  subst hl
  have key : ∀ u v w : Int, i * u + j * v = k * w → ge_am w u v := by
    intro u v w hw
    have c1 := ge_wt_bx (a := u) (b := v) (e := w) (f := w) i0 j0 k0 l0 hp hs (by omega)
    have c2 := ge_wt_bx (a := w) (b := w) (e := u) (f := v) k0 l0 i0 j0 (by omega) hs.symm (by omega)
    omega
  refine ⟨?_, key _ _ _ (by omega), key _ _ _ (by omega)⟩
  have : k * ge_x a b e = 0 := by omega
  rcases Int.mul_eq_zero.mp this with g | g
  · omega
  · exact g
/-- on one line, and not all in one column -/
theorem ge_col1 {a b e f : ge_P} (hn : ¬ (a.1 = b.1 ∧ a.1 = e.1 ∧ a.1 = f.1)) (x1 : ge_x a b e = 0) (x2 : ge_x a b f = 0) (x3 : ge_x e f a = 0) (h : ge_am e.1 a.1 b.1) : ge_on a b e := by
  refine ⟨x1, h, ?_⟩
  unfold ge_x at x1 x2 x3
  by_cases hab : a.1 = b.1
  · have e1 : e.1 = a.1 := by omega
    by_cases h2 : a.2 = b.2
    · have h3 : (f.1 - e.1) * (a.2 - e.2) = 0 := by
        have : a.1 - e.1 = 0 := by omega
        rw [this] at x3; simpa using x3
      rcases Int.mul_eq_zero.mp h3 with g | g
      · omega
      · omega
    · have h3 : (b.2 - a.2) * (f.1 - a.1) = 0 := by
        have : b.1 - a.1 = 0 := by omega
        rw [this] at x2; simp at x2; exact x2
      rcases Int.mul_eq_zero.mp h3 with g | g
      · omega
      · omega
  · rw [ge_am_mul] at h ⊢
    have hs : 0 < (b.1 - a.1) * (b.1 - a.1) := (hu_sq (b.1 - a.1)).2 (by omega)
    have hs2 : 0 ≤ (b.2 - a.2) * (b.2 - a.2) := (hu_sq (b.2 - a.2)).1
    have key : ((b.1 - a.1) * (b.1 - a.1)) * ((a.2 - e.2) * (b.2 - e.2)) = ((b.2 - a.2) * (b.2 - a.2)) * ((a.1 - e.1) * (b.1 - e.1)) := by grind
    have h4 := Int.mul_nonneg hs2 (show 0 ≤ - ((a.1 - e.1) * (b.1 - e.1)) by omega)
    have e4 : ((b.2 - a.2) * (b.2 - a.2)) * (- ((a.1 - e.1) * (b.1 - e.1))) = - (((b.2 - a.2) * (b.2 - a.2)) * ((a.1 - e.1) * (b.1 - e.1))) := by grind
    apply Classical.byContradiction
    intro g
    have := Int.mul_pos hs (show 0 < (a.2 - e.2) * (b.2 - e.2) by omega)
    omega
theorem ge_col {a b e f : ge_P} (x1 : ge_x a b e = 0) (x2 : ge_x a b f = 0) (x3 : ge_x e f a = 0) (x4 : ge_x e f b = 0) (h1 : ge_bx a.1 b.1 e.1 f.1) (h2 : ge_bx a.2 b.2 e.2 f.2) : ge_on a b e ∨ ge_on a b f ∨ ge_on e f a ∨ ge_on e f b := by
  by_cases hn : a.1 = b.1 ∧ a.1 = e.1 ∧ a.1 = f.1
  · rcases (show ge_am e.2 a.2 b.2 ∨ ge_am f.2 a.2 b.2 ∨ ge_am a.2 e.2 f.2 ∨ ge_am b.2 e.2 f.2 by omega) with g | g | g | g
    · exact .inl ⟨x1, by omega, g⟩
    · exact .inr (.inl ⟨x2, by omega, g⟩)
    · exact .inr (.inr (.inl ⟨x3, by omega, g⟩))
    · exact .inr (.inr (.inr ⟨x4, by omega, g⟩))
  · have x3' : ge_x f e a = 0 := by have := ge_x_swap e f a; omega
    have x1' : ge_x b a e = 0 := by have := ge_x_swap a b e; omega
    rcases (show ge_am e.1 a.1 b.1 ∨ ge_am f.1 a.1 b.1 ∨ ge_am a.1 e.1 f.1 ∨ ge_am b.1 e.1 f.1 by omega) with g | g | g | g
    · exact .inl (ge_col1 hn x1 x2 x3 g)
    · exact .inr (.inl (ge_col1 (by omega) x2 x1 x3' g))
    · exact .inr (.inr (.inl (ge_col1 (by omega) x3 x4 x1 g)))
    · exact .inr (.inr (.inr (ge_col1 (by omega) x4 x3 x1' g)))
theorem ge_sh_sm {a b e f : ge_P} (h : ge_sh a b e f) : ge_sm a b e f := by
  obtain ⟨⟨b1, b2⟩, h1, h2⟩ := h
  have hD := ge_x_D a b e f
  by_cases hz : ge_x a b e = 0 ∧ ge_x a b f = 0 ∧ ge_x e f a = 0 ∧ ge_x e f b = 0
  · exact .inr (ge_col hz.1 hz.2.1 hz.2.2.1 hz.2.2.2 b1 b2)
  · by_cases hs : sg (ge_x a b e) * sg (ge_x a b f) < 0 ∧ sg (ge_x e f a) * sg (ge_x e f b) < 0
    · exact .inl hs
    · right
      rw [sg_lt, sg_lt] at hs
      rw [sg_le] at h1 h2
      have hm : ge_meet a b e f := by
        rcases (show (ge_x e f b ≤ 0 ∧ 0 ≤ ge_x e f a ∧ ge_x e f b < ge_x e f a) ∨ (ge_x e f a ≤ 0 ∧ 0 ≤ ge_x e f b ∧ ge_x e f a < ge_x e f b) by omega) with g | g
        · exact ge_meet_of (by omega) (by omega) (by omega) (by omega) (by omega)
        · exact ge_meet_of' (by omega) (by omega) (by omega) (by omega) (by omega)
      obtain ⟨i, j, k, l, hw⟩ := hm
      have a1 := ge_aff hw a b
      have a2 := ge_aff (ge_wt_symm hw) e f
      have z1 := ge_x_00 a b
      have z2 := ge_x_00 e f
      rw [z1.1, z1.2.1] at a1
      rw [z2.1, z2.2.1] at a2
      have zz : ∀ u v : Int, u * v = 0 → v ≠ 0 → u = 0 := fun u v g1 g2 => (Int.mul_eq_zero.mp g1).elim id (fun g => absurd g g2)
      rcases (show ge_x a b e = 0 ∨ ge_x a b f = 0 ∨ ge_x e f a = 0 ∨ ge_x e f b = 0 by omega) with g | g | g | g
      · rw [g] at a1
        exact .inl (ge_wt_on hw (zz l (ge_x a b f) (by omega) (by omega)))
      · rw [g] at a1
        exact .inr (.inl (ge_wt_on (ge_wt_swap2 hw) (zz k (ge_x a b e) (by omega) (by omega))))
      · rw [g] at a2
        exact .inr (.inr (.inl (ge_wt_on (ge_wt_symm hw) (zz j (ge_x e f b) (by omega) (by omega)))))
      · rw [g] at a2
        exact .inr (.inr (.inr (ge_wt_on (ge_wt_swap2 (ge_wt_symm hw)) (zz i (ge_x e f a) (by omega) (by omega)))))
theorem ge_sm_iff (a b e f : ge_P) : ge_sm a b e f ↔ ge_sh a b e f := ⟨fun h => ge_meet_sh (ge_sm_meet h), ge_sh_sm⟩
theorem ge_sm_meet_iff (a b e f : ge_P) : ge_sm a b e f ↔ ge_meet a b e f := ⟨ge_sm_meet, fun h => ge_sh_sm (ge_meet_sh h)⟩
