abbrev ge_P : Type := Int × Int
def ge_x (a b p : ge_P) : Int := (b.1 - a.1) * (p.2 - a.2) - (b.2 - a.2) * (p.1 - a.1)
theorem ge_x_rot (a b c : ge_P) : ge_x a b c = ge_x b c a := by unfold ge_x; grind
theorem ge_x_swap (a b c : ge_P) : ge_x b a c = - ge_x a b c := by unfold ge_x; grind
theorem ge_x_I (a b x y p : ge_P) (hp : p = x ∨ p = y) : ge_x a b p * (y.2 - x.2) = - (ge_x x y a * (b.2 - p.2) - ge_x x y b * (a.2 - p.2)) := by
  rcases hp with rfl | rfl <;> (unfold ge_x; grind)
theorem ge_x_D (a b x y : ge_P) : ge_x a b y - ge_x a b x = ge_x x y a - ge_x x y b := by unfold ge_x; grind
theorem ge_x_w1 (a b x y : ge_P) : (- ge_x x y b) * a.1 + ge_x x y a * b.1 = ge_x a b y * x.1 + (- ge_x a b x) * y.1 := by unfold ge_x; grind
theorem ge_x_w2 (a b x y : ge_P) : (- ge_x x y b) * a.2 + ge_x x y a * b.2 = ge_x a b y * x.2 + (- ge_x a b x) * y.2 := by unfold ge_x; grind
/-- the two segments have a point in common: weights -/
def ge_wt (a b x y : ge_P) (i j k l : Int) : Prop := 0 ≤ i ∧ 0 ≤ j ∧ 0 ≤ k ∧ 0 ≤ l ∧ 0 < i + j ∧ i + j = k + l ∧ i * a.1 + j * b.1 = k * x.1 + l * y.1 ∧ i * a.2 + j * b.2 = k * x.2 + l * y.2
def ge_meet (a b x y : ge_P) : Prop := ∃ i j k l : Int, ge_wt a b x y i j k l
theorem ge_meet_of {a b x y : ge_P} (h1 : ge_x x y b ≤ 0) (h2 : 0 ≤ ge_x x y a) (h3 : ge_x a b x ≤ 0) (h4 : 0 ≤ ge_x a b y) (h5 : ge_x x y b < ge_x x y a) : ge_meet a b x y := by
  have hD := ge_x_D a b x y
  refine ⟨- ge_x x y b, ge_x x y a, ge_x a b y, - ge_x a b x, by omega, by omega, by omega, by omega, by omega, by omega, ge_x_w1 a b x y, ge_x_w2 a b x y⟩
theorem ge_meet_swap {a b x y : ge_P} (h : ge_meet b a x y) : ge_meet a b x y := by
  obtain ⟨i, j, k, l, h1, h2, h3, h4, h5, h6, h7, h8⟩ := h
  exact ⟨j, i, k, l, h2, h1, h3, h4, by omega, by omega, by omega, by omega⟩
theorem ge_meet_symm {a b x y : ge_P} (h : ge_meet x y a b) : ge_meet a b x y := by
  obtain ⟨i, j, k, l, h1, h2, h3, h4, h5, h6, h7, h8⟩ := h
  exact ⟨k, l, i, j, h3, h4, h1, h2, by omega, by omega, by omega, by omega⟩
theorem ge_meet_of' {a b x y : ge_P} (h1 : ge_x x y a ≤ 0) (h2 : 0 ≤ ge_x x y b) (h3 : 0 ≤ ge_x a b x) (h4 : ge_x a b y ≤ 0) (h5 : ge_x x y a < ge_x x y b) : ge_meet a b x y := by
  have e1 := ge_x_swap a b x
  have e2 := ge_x_swap a b y
  exact ge_meet_swap (ge_meet_of h1 h2 (by omega) (by omega) h5)
/-- which edges cross the ray to the left -/
def ge_w (x a b : ge_P) : Int := if a.2 ≤ x.2 ∧ x.2 < b.2 ∧ ge_x a b x < 0 then 1 else if b.2 ≤ x.2 ∧ x.2 < a.2 ∧ 0 < ge_x a b x then -1 else 0
theorem ge_w_swap (x a b : ge_P) : ge_w x b a = - ge_w x a b := by
  have e := ge_x_swap a b x
  unfold ge_w
  grind
/-- between the rays -/
def ge_g (x y a : ge_P) : Int := if x.2 < a.2 ∧ a.2 ≤ y.2 ∧ 0 < ge_x x y a then 1 else 0
theorem ge_loc_bm {a b x y : ge_P} (hn : ¬ ge_meet a b x y) (h1 : a.2 ≤ x.2) (h2 : x.2 < b.2) (h3 : b.2 ≤ y.2) : (ge_x a b x < 0 ↔ 0 < ge_x x y b) := by
  have ix := ge_x_I a b x y x (.inl rfl)
  have iy := ge_x_I a b x y y (.inr rfl)
  have hD := ge_x_D a b x y
  constructor
  · intro hf
    rcases Int.lt_or_le 0 (ge_x x y b) with h | h
    · exact h
    · exfalso
      have p1 : 0 < (-ge_x a b x) * (y.2 - x.2) := Int.mul_pos (by omega) (by omega)
      have p2 : 0 ≤ (-ge_x x y b) * (x.2 - a.2) := Int.mul_nonneg (by omega) (by omega)
      have p3 : 0 < ge_x x y a := by
        rcases Int.lt_or_le 0 (ge_x x y a) with h' | h'
        · exact h'
        · have := Int.mul_nonneg (show 0 ≤ - ge_x x y a by omega) (show 0 ≤ b.2 - x.2 by omega)
          grind
      have p4 : 0 ≤ ge_x a b y := by
        rcases Int.lt_or_le (ge_x a b y) 0 with h' | h'
        · have q1 := Int.mul_pos (show 0 < - ge_x a b y by omega) (show 0 < y.2 - x.2 by omega)
          have q2 := Int.mul_nonneg (show 0 ≤ ge_x x y a by omega) (show 0 ≤ y.2 - b.2 by omega)
          have q3 := Int.mul_nonneg (show 0 ≤ - ge_x x y b by omega) (show 0 ≤ y.2 - a.2 by omega)
          grind
        · exact h'
      exact hn (ge_meet_of h (by omega) (by omega) p4 (by omega))
  · intro hb
    rcases Int.lt_or_le (ge_x a b x) 0 with h | h
    · exact h
    · exfalso
      have p1 : 0 ≤ (ge_x a b x) * (y.2 - x.2) := Int.mul_nonneg (by omega) (by omega)
      have p2 : 0 ≤ (ge_x x y b) * (x.2 - a.2) := Int.mul_nonneg (by omega) (by omega)
      have p3 : ge_x x y a ≤ 0 := by
        rcases Int.lt_or_le 0 (ge_x x y a) with h' | h'
        · have := Int.mul_pos h' (show 0 < b.2 - x.2 by omega)
          grind
        · exact h'
      have p4 : ge_x a b y ≤ 0 := by
        rcases Int.lt_or_le 0 (ge_x a b y) with h' | h'
        · have q1 := Int.mul_pos h' (show 0 < y.2 - x.2 by omega)
          have q2 := Int.mul_nonneg (show 0 ≤ - ge_x x y a by omega) (show 0 ≤ y.2 - b.2 by omega)
          have q3 := Int.mul_pos hb (show 0 < y.2 - a.2 by omega)
          grind
        · exact h'
      exact hn (ge_meet_of' p3 (by omega) (by omega) p4 (by omega))
theorem ge_loc_ba {a b x y : ge_P} (hn : ¬ ge_meet a b x y) (hxy : x.2 ≤ y.2) (h1 : a.2 ≤ x.2) (h2 : y.2 < b.2) : (ge_x a b x < 0 ↔ ge_x a b y < 0) := by
  have ix := ge_x_I a b x y x (.inl rfl)
  have iy := ge_x_I a b x y y (.inr rfl)
  have hD := ge_x_D a b x y
  constructor
  · intro hf
    rcases Int.lt_or_le (ge_x a b y) 0 with h | h
    · exact h
    · exfalso
      have p1 : 0 ≤ (-ge_x a b x) * (y.2 - x.2) := Int.mul_nonneg (by omega) (by omega)
      have p2 : 0 ≤ (ge_x a b y) * (y.2 - x.2) := Int.mul_nonneg (by omega) (by omega)
      have p3 : 0 ≤ ge_x x y a := by
        rcases Int.lt_or_le (ge_x x y a) 0 with h' | h'
        · have q1 := Int.mul_pos (show 0 < - ge_x x y a by omega) (show 0 < b.2 - x.2 by omega)
          have q2 := Int.mul_nonneg (show 0 ≤ - ge_x x y b by omega) (show 0 ≤ x.2 - a.2 by omega)
          grind
        · exact h'
      have p4 : ge_x x y b ≤ 0 := by
        rcases Int.lt_or_le 0 (ge_x x y b) with h' | h'
        · have q1 := Int.mul_pos (show 0 < ge_x x y a by omega) (show 0 < b.2 - y.2 by omega)
          have q2 := Int.mul_nonneg (show 0 ≤ ge_x x y b by omega) (show 0 ≤ y.2 - a.2 by omega)
          grind
        · exact h'
      exact hn (ge_meet_of p4 p3 (by omega) h (by omega))
  · intro hf
    rcases Int.lt_or_le (ge_x a b x) 0 with h | h
    · exact h
    · exfalso
      have p1 : 0 ≤ (ge_x a b x) * (y.2 - x.2) := Int.mul_nonneg (by omega) (by omega)
      have p2 : 0 ≤ (- ge_x a b y) * (y.2 - x.2) := Int.mul_nonneg (by omega) (by omega)
      have p3 : ge_x x y a ≤ 0 := by
        rcases Int.lt_or_le 0 (ge_x x y a) with h' | h'
        · have q1 := Int.mul_pos h' (show 0 < b.2 - x.2 by omega)
          have q2 := Int.mul_nonneg (show 0 ≤ ge_x x y b by omega) (show 0 ≤ x.2 - a.2 by omega)
          grind
        · exact h'
      have p4 : 0 ≤ ge_x x y b := by
        rcases Int.lt_or_le (ge_x x y b) 0 with h' | h'
        · have q1 := Int.mul_pos (show 0 < - ge_x x y a by omega) (show 0 < b.2 - y.2 by omega)
          have q2 := Int.mul_nonneg (show 0 ≤ - ge_x x y b by omega) (show 0 ≤ y.2 - a.2 by omega)
          grind
        · exact h'
      exact hn (ge_meet_of' p3 p4 h (by omega) (by omega))
theorem ge_loc_mm {a b x y : ge_P} (hn : ¬ ge_meet a b x y) (h1 : x.2 < a.2) (h2 : a.2 ≤ y.2) (h3 : x.2 < b.2) (h4 : b.2 ≤ y.2) (ha : 0 < ge_x x y a) : 0 < ge_x x y b := by
  have ix := ge_x_I a b x y x (.inl rfl)
  have iy := ge_x_I a b x y y (.inr rfl)
  rcases Int.lt_or_le 0 (ge_x x y b) with h | h
  · exact h
  · exfalso
    have p1 := Int.mul_pos ha (show 0 < b.2 - x.2 by omega)
    have p2 := Int.mul_nonneg (show 0 ≤ - ge_x x y b by omega) (show 0 ≤ a.2 - x.2 by omega)
    have p3 := Int.mul_nonneg (show 0 ≤ ge_x x y a by omega) (show 0 ≤ y.2 - b.2 by omega)
    have p4 := Int.mul_nonneg (show 0 ≤ - ge_x x y b by omega) (show 0 ≤ y.2 - a.2 by omega)
    have p5 : ge_x a b x ≤ 0 := by
      rcases Int.lt_or_le 0 (ge_x a b x) with h' | h'
      · have := Int.mul_pos h' (show 0 < y.2 - x.2 by omega)
        grind
      · exact h'
    have p6 : 0 ≤ ge_x a b y := by
      rcases Int.lt_or_le (ge_x a b y) 0 with h' | h'
      · have := Int.mul_pos (show 0 < - ge_x a b y by omega) (show 0 < y.2 - x.2 by omega)
        grind
      · exact h'
    exact hn (ge_meet_of h (by omega) p5 p6 (by omega))
theorem ge_loc_ma {a b x y : ge_P} (hn : ¬ ge_meet a b x y) (h1 : x.2 < a.2) (h2 : a.2 ≤ y.2) (h3 : y.2 < b.2) : (ge_x a b y < 0 ↔ 0 < ge_x x y a) := by
  have ix := ge_x_I a b x y x (.inl rfl)
  have iy := ge_x_I a b x y y (.inr rfl)
  constructor
  · intro hf
    rcases Int.lt_or_le 0 (ge_x x y a) with h | h
    · exact h
    · exfalso
      have p1 := Int.mul_pos (show 0 < - ge_x a b y by omega) (show 0 < y.2 - x.2 by omega)
      have p2 := Int.mul_nonneg (show 0 ≤ - ge_x x y a by omega) (show 0 ≤ b.2 - y.2 by omega)
      have p3 : 0 < ge_x x y b := by
        rcases Int.lt_or_le 0 (ge_x x y b) with h' | h'
        · exact h'
        · have := Int.mul_nonneg (show 0 ≤ - ge_x x y b by omega) (show 0 ≤ y.2 - a.2 by omega)
          grind
      have p4 : 0 ≤ ge_x a b x := by
        rcases Int.lt_or_le (ge_x a b x) 0 with h' | h'
        · have q1 := Int.mul_pos (show 0 < - ge_x a b x by omega) (show 0 < y.2 - x.2 by omega)
          have q2 := Int.mul_nonneg (show 0 ≤ - ge_x x y a by omega) (show 0 ≤ b.2 - x.2 by omega)
          have q3 := Int.mul_pos p3 (show 0 < a.2 - x.2 by omega)
          grind
        · exact h'
      exact hn (ge_meet_of' h (by omega) p4 (by omega) (by omega))
  · intro ha
    rcases Int.lt_or_le (ge_x a b y) 0 with h | h
    · exact h
    · exfalso
      have p1 := Int.mul_nonneg h (show 0 ≤ y.2 - x.2 by omega)
      have p2 := Int.mul_pos ha (show 0 < b.2 - y.2 by omega)
      have p3 : ge_x x y b ≤ 0 := by
        rcases Int.lt_or_le 0 (ge_x x y b) with h' | h'
        · have := Int.mul_nonneg (show 0 ≤ ge_x x y b by omega) (show 0 ≤ y.2 - a.2 by omega)
          grind
        · exact h'
      have p4 : ge_x a b x ≤ 0 := by
        rcases Int.lt_or_le 0 (ge_x a b x) with h' | h'
        · have q1 := Int.mul_pos h' (show 0 < y.2 - x.2 by omega)
          have q2 := Int.mul_pos ha (show 0 < b.2 - x.2 by omega)
          have q3 := Int.mul_nonneg (show 0 ≤ - ge_x x y b by omega) (show 0 ≤ a.2 - x.2 by omega)
          grind
        · exact h'
      exact hn (ge_meet_of p3 (by omega) p4 h (by omega))
theorem ge_loc_up {a b x y : ge_P} (hn : ¬ ge_meet a b x y) (hxy : x.2 ≤ y.2) (hab : a.2 ≤ b.2) : ge_w x a b - ge_w y a b = ge_g x y b - ge_g x y a := by
  rcases Int.lt_or_le x.2 a.2 with ha | ha
  · rcases Int.lt_or_le y.2 a.2 with ha' | ha'
    · unfold ge_w ge_g; grind
    · rcases Int.lt_or_le y.2 b.2 with hb' | hb'
      · have := ge_loc_ma hn ha ha' hb'
        unfold ge_w ge_g; grind
      · have h1 := ge_loc_mm hn ha ha' (by omega) hb'
        have h2 := ge_loc_mm (mt ge_meet_swap hn) (by omega) hb' ha ha'
        unfold ge_w ge_g; grind
  · rcases Int.lt_or_le x.2 b.2 with hb | hb
    · rcases Int.lt_or_le y.2 b.2 with hb' | hb'
      · have := ge_loc_ba hn hxy ha hb'
        unfold ge_w ge_g; grind
      · have := ge_loc_bm hn ha hb hb'
        unfold ge_w ge_g; grind
    · unfold ge_w ge_g; grind
theorem ge_loc {a b x y : ge_P} (hn : ¬ ge_meet a b x y) (hxy : x.2 ≤ y.2) : ge_w x a b - ge_w y a b = ge_g x y b - ge_g x y a := by
  rcases Int.le_total a.2 b.2 with h | h
  · exact ge_loc_up hn hxy h
  · have h1 := ge_loc_up (mt ge_meet_swap hn) hxy h
    have h2 := ge_w_swap x a b
    have h3 := ge_w_swap y a b
    omega
/-- an edge that goes from the left of the way from x to y to its right, between x and y -/
theorem ge_cross {a b x y : ge_P} (hxy : x.2 ≤ y.2) (ha : 0 < ge_x x y a) (hb : ge_x x y b < 0) (hf : ge_x a b x < 0) (hh : 0 < ge_x a b y) : ge_w x a b - ge_w y a b = ge_g x y b - ge_g x y a + 1 := by
  have ix := ge_x_I a b x y x (.inl rfl)
  have iy := ge_x_I a b x y y (.inr rfl)
  have p1 := Int.mul_nonneg (show 0 ≤ - ge_x a b x by omega) (show 0 ≤ y.2 - x.2 by omega)
  have p2 := Int.mul_nonneg (show 0 ≤ ge_x a b y by omega) (show 0 ≤ y.2 - x.2 by omega)
  rcases Int.lt_or_le x.2 a.2 with ha1 | ha1
  · rcases Int.lt_or_le y.2 a.2 with ha2 | ha2
    · -- a above
      rcases Int.lt_or_le y.2 b.2 with hb2 | hb2
      · exfalso
        have q1 := Int.mul_pos ha (show 0 < b.2 - y.2 by omega)
        have q2 := Int.mul_pos (show 0 < - ge_x x y b by omega) (show 0 < a.2 - y.2 by omega)
        grind
      · unfold ge_w ge_g; grind
    · unfold ge_w ge_g; grind
  · -- a below
    rcases Int.lt_or_le x.2 b.2 with hb1 | hb1
    · unfold ge_w ge_g; grind
    · exfalso
      have q1 := Int.mul_nonneg (show 0 ≤ ge_x x y a by omega) (show 0 ≤ x.2 - b.2 by omega)
      have q2 := Int.mul_nonneg (show 0 ≤ - ge_x x y b by omega) (show 0 ≤ x.2 - a.2 by omega)
      have q3 : x.2 < y.2 ∨ x.2 = y.2 := by omega
      rcases q3 with q3 | q3
      · have q4 := Int.mul_pos (show 0 < - ge_x a b x by omega) (show 0 < y.2 - x.2 by omega)
        grind
      · have e1 : ge_x x y a = (y.1 - x.1) * (a.2 - x.2) := by unfold ge_x; grind
        have e2 : ge_x x y b = (y.1 - x.1) * (b.2 - x.2) := by unfold ge_x; grind
        rcases Int.lt_or_le x.1 y.1 with q5 | q5
        · have := Int.mul_nonneg (show 0 ≤ y.1 - x.1 by omega) (show 0 ≤ x.2 - a.2 by omega)
          grind
        · have := Int.mul_nonneg (show 0 ≤ x.1 - y.1 by omega) (show 0 ≤ x.2 - b.2 by omega)
          grind
/-- an edge from a place on the way to its left -/
def ge_g2 (x y a : ge_P) : Int := if x.2 < a.2 ∧ a.2 ≤ y.2 ∧ 0 ≤ ge_x x y a then 1 else 0
theorem ge_thruL {p a x y : ge_P} (h1 : x.2 < p.2) (h2 : p.2 < y.2) (hp : ge_x x y p = 0) (ha : 0 < ge_x x y a) : ge_w x p a - ge_w y p a = ge_g2 x y a - ge_g2 x y p := by
  have ix := ge_x_I p a x y x (.inl rfl)
  have iy := ge_x_I p a x y y (.inr rfl)
  have p1 := Int.mul_pos ha (show 0 < p.2 - x.2 by omega)
  have p2 := Int.mul_pos ha (show 0 < y.2 - p.2 by omega)
  have q1 : 0 < ge_x p a x := by
    rcases Int.lt_or_le 0 (ge_x p a x) with h | h
    · exact h
    · have := Int.mul_nonneg (show 0 ≤ - ge_x p a x by omega) (show 0 ≤ y.2 - x.2 by omega)
      grind
  have q2 : ge_x p a y < 0 := by
    rcases Int.lt_or_le (ge_x p a y) 0 with h | h
    · exact h
    · have := Int.mul_nonneg h (show 0 ≤ y.2 - x.2 by omega)
      grind
  unfold ge_w ge_g2; grind
theorem ge_thruR {p a x y : ge_P} (h1 : x.2 < p.2) (h2 : p.2 < y.2) (hp : ge_x x y p = 0) (ha : ge_x x y a < 0) : ge_w x p a - ge_w y p a = ge_g x y a - ge_g x y p := by
  have ix := ge_x_I p a x y x (.inl rfl)
  have iy := ge_x_I p a x y y (.inr rfl)
  have p1 := Int.mul_pos (show 0 < - ge_x x y a by omega) (show 0 < p.2 - x.2 by omega)
  have p2 := Int.mul_pos (show 0 < - ge_x x y a by omega) (show 0 < y.2 - p.2 by omega)
  have q1 : ge_x p a x < 0 := by
    rcases Int.lt_or_le (ge_x p a x) 0 with h | h
    · exact h
    · have := Int.mul_nonneg h (show 0 ≤ y.2 - x.2 by omega)
      grind
  have q2 : 0 < ge_x p a y := by
    rcases Int.lt_or_le 0 (ge_x p a y) with h | h
    · exact h
    · have := Int.mul_nonneg (show 0 ≤ - ge_x p a y by omega) (show 0 ≤ y.2 - x.2 by omega)
      grind
  unfold ge_w ge_g; grind
/-- a point of the segment's height on its line is on it -/
theorem ge_meet_on {a b x y : ge_P} (h1 : x.2 < y.2) (h2 : x.2 ≤ a.2) (h3 : a.2 ≤ y.2) (h : ge_x x y a = 0) : ge_meet a b x y := by
  refine ⟨y.2 - x.2, 0, y.2 - a.2, a.2 - x.2, by omega, by omega, by omega, by omega, by omega, by omega, ?_, ?_⟩ <;> (unfold ge_x at h; grind)
theorem ge_g2_eq {a b x y : ge_P} (hn : ¬ ge_meet a b x y) : ge_g2 x y a = ge_g x y a := by
  have : x.2 < a.2 → a.2 ≤ y.2 → ge_x x y a ≠ 0 := fun h1 h2 h3 => hn (ge_meet_on (by omega) (by omega) h2 h3)
  unfold ge_g2 ge_g; grind
/-! chains -/
def ge_E : List ge_P → List (ge_P × ge_P)
  | a :: b :: l => (a, b) :: ge_E (b :: l)
  | _ => []
def ge_C (x : ge_P) : List ge_P → Int
  | a :: b :: l => ge_w x a b + ge_C x (b :: l)
  | _ => 0
theorem ge_tele {x y : ge_P} (g : ge_P → Int) : ∀ (l : List ge_P) (p q : ge_P), (∀ e ∈ ge_E (p :: l ++ [q]), ge_w x e.1 e.2 - ge_w y e.1 e.2 = g e.2 - g e.1) → ge_C x (p :: l ++ [q]) - ge_C y (p :: l ++ [q]) = g q - g p
  | [], p, q, h => by
    have := h (p, q) (by simp [ge_E])
    simp [ge_C]
    simpa using this
  | a :: l, p, q, h => by
    have h1 := h (p, a) (by simp [ge_E])
    have h2 := ge_tele g l a q (fun e he => h e (by simp [ge_E] at he ⊢; exact Or.inr he))
    simp [ge_C] at h1 h2 ⊢
    omega
theorem ge_C_app (x : ge_P) : ∀ (l1 l2 : List ge_P) (q : ge_P), ge_C x (l1 ++ q :: l2) = ge_C x (l1 ++ [q]) + ge_C x (q :: l2)
  | [], l2, q => by simp [ge_C]
  | [a], l2, q => by simp [ge_C]
  | a :: b :: l, l2, q => by
    have := ge_C_app x (b :: l) l2 q
    simp [ge_C] at this ⊢
    omega
theorem ge_E_app : ∀ (l1 l2 : List ge_P) (q : ge_P), ge_E (l1 ++ q :: l2) = ge_E (l1 ++ [q]) ++ ge_E (q :: l2)
  | [], l2, q => by simp [ge_E]
  | [a], l2, q => by simp [ge_E]
  | a :: b :: l, l2, q => by
    have := ge_E_app (b :: l) l2 q
    simp [ge_E] at this ⊢
    exact this
/-- the closed chain of a polygon -/
def ge_cl : List ge_P → List ge_P
  | [] => []
  | p :: l => p :: l ++ [p]
def ge_W (x : ge_P) (P : List ge_P) : Int := ge_C x (ge_cl P)
abbrev ge_Ed (P : List ge_P) : List (ge_P × ge_P) := ge_E (ge_cl P)
theorem ge_J0 {x y : ge_P} {P : List ge_P} (g : ge_P → Int) (h : ∀ e ∈ ge_Ed P, ge_w x e.1 e.2 - ge_w y e.1 e.2 = g e.2 - g e.1) : ge_W x P = ge_W y P := by
  cases P with
  | nil => rfl
  | cons p l =>
    have := ge_tele g l p p h
    simp [ge_W, ge_cl] at this ⊢
    omega
theorem ge_meet_swap2 {a b x y : ge_P} (h : ge_meet a b y x) : ge_meet a b x y := ge_meet_symm (ge_meet_swap (ge_meet_symm h))
/-- along a segment that doesn't touch the polygon -/
theorem ge_J1 {x y : ge_P} {P : List ge_P} (h : ∀ e ∈ ge_Ed P, ¬ ge_meet e.1 e.2 x y) : ge_W x P = ge_W y P := by
  rcases Int.le_total x.2 y.2 with hxy | hxy
  · exact ge_J0 (ge_g x y) (fun e he => ge_loc (h e he) hxy)
  · exact (ge_J0 (ge_g y x) (fun e he => ge_loc (fun z => h e he (ge_meet_swap2 z)) hxy)).symm
/-- below all -/
theorem ge_W_low {x : ge_P} {P : List ge_P} (h : ∀ v ∈ P, x.2 < v.2 ∨ (x.2 = v.2 ∧ x.1 < v.1)) : ge_W x P = 0 := by
  have key : ∀ l : List ge_P, (∀ v ∈ l, x.2 < v.2 ∨ (x.2 = v.2 ∧ x.1 < v.1)) → ge_C x l = 0 := by
    intro l
    induction l with
    | nil => intro _; rfl
    | cons a l ih =>
      intro hl
      cases l with
      | nil => rfl
      | cons b l =>
        have h1 := ih (fun v hv => hl v (List.mem_cons_of_mem _ hv))
        have ha := hl a (by simp)
        have hb := hl b (by simp)
        have e : ge_x a b x = (b.1 - a.1) * (x.2 - a.2) + (b.2 - a.2) * (a.1 - x.1) := by unfold ge_x; grind
        have h2 : ge_w x a b = 0 := by
          unfold ge_w
          split
          · rename_i hc
            have e2 : x.2 - a.2 = 0 := by omega
            have := Int.mul_pos (show 0 < b.2 - a.2 by omega) (show 0 < a.1 - x.1 by omega)
            rw [e2] at e
            omega
          · split
            · rename_i hc
              have e3 : ge_x a b x = (b.1 - a.1) * (x.2 - b.2) + (b.2 - a.2) * (b.1 - x.1) := by unfold ge_x; grind
              have e2 : x.2 - b.2 = 0 := by omega
              have := Int.mul_pos (show 0 < a.2 - b.2 by omega) (show 0 < b.1 - x.1 by omega)
              rw [e2] at e3
              grind
            · rfl
        simp [ge_C]
        omega
  cases P with
  | nil => rfl
  | cons p l => exact key _ (fun v hv => h v (by simp [ge_cl] at hv ⊢; grind))
/-! a triangle -/
theorem ge_bary (a b c x : ge_P) : ge_x b c x + ge_x c a x + ge_x a b x = ge_x a b c ∧ ge_x b c x * (a.2 - x.2) + ge_x c a x * (b.2 - x.2) + ge_x a b x * (c.2 - x.2) = 0 ∧ ge_x b c x * (a.1 - x.1) + ge_x c a x * (b.1 - x.1) + ge_x a b x * (c.1 - x.1) = 0 := by
  unfold ge_x; refine ⟨?_, ?_, ?_⟩ <;> grind
def ge_TW (x a b c : ge_P) : Int := ge_w x a b + ge_w x b c + ge_w x c a
def ge_TQ (x a b c : ge_P) : Prop := (ge_x b c x < 0 ∨ ge_x c a x < 0 ∨ ge_x a b x < 0 → ge_TW x a b c = 0) ∧ (0 < ge_x b c x → 0 < ge_x c a x → 0 < ge_x a b x → ge_TW x a b c = -1) ∧ -1 ≤ ge_TW x a b c ∧ ge_TW x a b c ≤ 0
theorem ge_TQ_rot {x a b c : ge_P} (h : ge_TQ x b c a) : ge_TQ x a b c := by
  unfold ge_TQ ge_TW at *
  grind
theorem ge_tri_b {x a b c : ge_P} (hD : 0 < ge_x a b c) (h1 : a.2 ≤ x.2) (h2 : x.2 < b.2) (h3 : x.2 < c.2) : ge_TQ x a b c := by
  obtain ⟨e1, e2, -⟩ := ge_bary a b c x
  have n1 : ge_x a b x < 0 → ge_x c a x ≤ 0 → False := by
    intro g1 g2
    have q1 := Int.mul_pos (show 0 < - ge_x a b x by omega) (show 0 < c.2 - x.2 by omega)
    have q2 := Int.mul_nonneg (show 0 ≤ - ge_x c a x by omega) (show 0 ≤ b.2 - x.2 by omega)
    have q3 := Int.mul_nonneg (show 0 ≤ ge_x b c x by omega) (show 0 ≤ x.2 - a.2 by omega)
    grind
  have n2 : ge_x b c x < 0 → 0 ≤ ge_x c a x → 0 ≤ ge_x a b x → False := by
    intro g1 g2 g3
    have q1 := Int.mul_nonneg (show 0 ≤ - ge_x b c x by omega) (show 0 ≤ x.2 - a.2 by omega)
    have q2 := Int.mul_nonneg g2 (show 0 ≤ b.2 - x.2 by omega)
    have q3 := Int.mul_nonneg g3 (show 0 ≤ c.2 - x.2 by omega)
    have : 0 < ge_x c a x ∨ 0 < ge_x a b x := by omega
    rcases this with h | h
    · have := Int.mul_pos h (show 0 < b.2 - x.2 by omega)
      grind
    · have := Int.mul_pos h (show 0 < c.2 - x.2 by omega)
      grind
  have w1 : ge_w x a b = if ge_x a b x < 0 then 1 else 0 := by unfold ge_w; grind
  have w2 : ge_w x b c = 0 := by unfold ge_w; grind
  have w3 : ge_w x c a = if 0 < ge_x c a x then -1 else 0 := by unfold ge_w; grind
  unfold ge_TQ ge_TW
  rw [w1, w2, w3]
  grind
theorem ge_tri_a {x a b c : ge_P} (hD : 0 < ge_x a b c) (h1 : x.2 < a.2) (h2 : b.2 ≤ x.2) (h3 : c.2 ≤ x.2) : ge_TQ x a b c := by
  obtain ⟨e1, e2, -⟩ := ge_bary a b c x
  have n1 : ge_x c a x < 0 → ge_x a b x ≤ 0 → False := by
    intro g1 g2
    have q1 := Int.mul_nonneg (show 0 ≤ - ge_x a b x by omega) (show 0 ≤ x.2 - c.2 by omega)
    have q2 := Int.mul_nonneg (show 0 ≤ - ge_x c a x by omega) (show 0 ≤ x.2 - b.2 by omega)
    have q3 := Int.mul_pos (show 0 < ge_x b c x by omega) (show 0 < a.2 - x.2 by omega)
    grind
  have n2 : ge_x b c x < 0 → 0 ≤ ge_x c a x → 0 ≤ ge_x a b x → False := by
    intro g1 g2 g3
    have q1 := Int.mul_pos (show 0 < - ge_x b c x by omega) (show 0 < a.2 - x.2 by omega)
    have q2 := Int.mul_nonneg g2 (show 0 ≤ x.2 - b.2 by omega)
    have q3 := Int.mul_nonneg g3 (show 0 ≤ x.2 - c.2 by omega)
    grind
  have w1 : ge_w x a b = if 0 < ge_x a b x then -1 else 0 := by unfold ge_w; grind
  have w2 : ge_w x b c = 0 := by unfold ge_w; grind
  have w3 : ge_w x c a = if ge_x c a x < 0 then 1 else 0 := by unfold ge_w; grind
  unfold ge_TQ ge_TW
  rw [w1, w2, w3]
  grind
theorem ge_tri {x a b c : ge_P} (hD : 0 < ge_x a b c) : ge_TQ x a b c := by
  have hD1 : 0 < ge_x b c a := by rw [← ge_x_rot]; exact hD
  have hD2 : 0 < ge_x c a b := by rw [← ge_x_rot]; exact hD1
  have w0 : (a.2 ≤ x.2 ∧ b.2 ≤ x.2 ∧ c.2 ≤ x.2) ∨ (x.2 < a.2 ∧ x.2 < b.2 ∧ x.2 < c.2) → ge_TQ x a b c := by
    intro h
    have w1 : ge_w x a b = 0 := by unfold ge_w; grind
    have w2 : ge_w x b c = 0 := by unfold ge_w; grind
    have w3 : ge_w x c a = 0 := by unfold ge_w; grind
    have : ge_TW x a b c = 0 := by unfold ge_TW; omega
    obtain ⟨e1, e2, -⟩ := ge_bary a b c x
    unfold ge_TQ
    rw [this]
    refine ⟨fun _ => rfl, fun g1 g2 g3 => ?_, by omega, by omega⟩
    exfalso
    rcases h with h | h
    · have q1 := Int.mul_nonneg (show 0 ≤ ge_x b c x by omega) (show 0 ≤ x.2 - a.2 by omega)
      have q2 := Int.mul_nonneg (show 0 ≤ ge_x c a x by omega) (show 0 ≤ x.2 - b.2 by omega)
      have q3 := Int.mul_nonneg (show 0 ≤ ge_x a b x by omega) (show 0 ≤ x.2 - c.2 by omega)
      have r1 : x.2 - a.2 = 0 := by
        rcases (show x.2 - a.2 = 0 ∨ 0 < x.2 - a.2 by omega) with h | h
        · exact h
        · have := Int.mul_pos g1 h
          grind
      have r2 : x.2 - b.2 = 0 := by
        rcases (show x.2 - b.2 = 0 ∨ 0 < x.2 - b.2 by omega) with h | h
        · exact h
        · have := Int.mul_pos g2 h
          grind
      have r3 : x.2 - c.2 = 0 := by
        rcases (show x.2 - c.2 = 0 ∨ 0 < x.2 - c.2 by omega) with h | h
        · exact h
        · have := Int.mul_pos g3 h
          grind
      unfold ge_x at hD
      grind
    · have q1 := Int.mul_pos g1 (show 0 < a.2 - x.2 by omega)
      have q2 := Int.mul_pos g2 (show 0 < b.2 - x.2 by omega)
      have q3 := Int.mul_pos g3 (show 0 < c.2 - x.2 by omega)
      omega
  rcases Int.lt_or_le x.2 a.2 with ha | ha <;> rcases Int.lt_or_le x.2 b.2 with hb | hb <;> rcases Int.lt_or_le x.2 c.2 with hc | hc
  · exact w0 (.inr ⟨ha, hb, hc⟩)
  · exact ge_TQ_rot (ge_TQ_rot (ge_tri_b hD2 hc ha hb))
  · exact ge_TQ_rot (ge_tri_b hD1 hb hc ha)
  · exact ge_tri_a hD ha hb hc
  · exact ge_tri_b hD ha hb hc
  · exact ge_TQ_rot (ge_tri_a hD1 hb hc ha)
  · exact ge_TQ_rot (ge_TQ_rot (ge_tri_a hD2 hc ha hb))
  · exact w0 (.inl ⟨ha, hb, hc⟩)
/-! simple polygons -/
def ge_ok (e f : ge_P × ge_P) : Prop := ∀ i j k l : Int, ge_wt e.1 e.2 f.1 f.2 i j k l → (i = 0 ∧ l = 0 ∧ e.2 = f.1) ∨ (j = 0 ∧ k = 0 ∧ e.1 = f.2)
def ge_S (P : List ge_P) : Prop := P.Nodup ∧ 3 ≤ P.length ∧ ∀ e ∈ ge_Ed P, ∀ f ∈ ge_Ed P, e ≠ f → ge_ok e f
def ge_off (x : ge_P) (P : List ge_P) : Prop := ∀ e ∈ ge_Ed P, ¬ ge_meet e.1 e.2 x x
/-- a segment and an edge share no more than an end of both -/
def ge_cf (u v : ge_P) (e : ge_P × ge_P) : Prop := ∀ i j k l : Int, ge_wt u v e.1 e.2 i j k l → (i = 0 ∧ ((v = e.1 ∧ l = 0) ∨ (v = e.2 ∧ k = 0))) ∨ (j = 0 ∧ ((u = e.1 ∧ l = 0) ∨ (u = e.2 ∧ k = 0)))
theorem ge_wt_symm {a b x y : ge_P} {i j k l : Int} (h : ge_wt a b x y i j k l) : ge_wt x y a b k l i j := by
  obtain ⟨h1, h2, h3, h4, h5, h6, h7, h8⟩ := h
  exact ⟨h3, h4, h1, h2, by omega, by omega, by omega, by omega⟩
theorem ge_wt_swap {a b x y : ge_P} {i j k l : Int} (h : ge_wt a b x y i j k l) : ge_wt b a x y j i k l := by
  obtain ⟨h1, h2, h3, h4, h5, h6, h7, h8⟩ := h
  exact ⟨h2, h1, h3, h4, by omega, by omega, by omega, by omega⟩
theorem ge_wt_swap2 {a b x y : ge_P} {i j k l : Int} (h : ge_wt a b x y i j k l) : ge_wt a b y x i j l k := ge_wt_symm (ge_wt_swap (ge_wt_symm h))
theorem ge_ok_symm {e f : ge_P × ge_P} (h : ge_ok e f) : ge_ok f e := by
  intro i j k l hw
  rcases h k l i j (ge_wt_symm hw) with ⟨h1, h2, h3⟩ | ⟨h1, h2, h3⟩
  · exact .inr ⟨h2, h1, h3.symm⟩
  · exact .inl ⟨h2, h1, h3.symm⟩
theorem ge_ok_cf {e f : ge_P × ge_P} (h : ge_ok e f) : ge_cf e.1 e.2 f := by
  intro i j k l hw
  rcases h i j k l hw with ⟨h1, h2, h3⟩ | ⟨h1, h2, h3⟩
  · exact .inl ⟨h1, .inl ⟨h3, h2⟩⟩
  · exact .inr ⟨h1, .inr ⟨h3, h2⟩⟩
theorem ge_cf_swap {u v : ge_P} {e : ge_P × ge_P} (h : ge_cf u v e) : ge_cf v u e := by
  intro i j k l hw
  rcases h j i k l (ge_wt_swap hw) with h | h
  · exact .inr h
  · exact .inl h
theorem ge_E_mem : ∀ {l : List ge_P} {e : ge_P × ge_P}, e ∈ ge_E l → e.1 ∈ l ∧ e.2 ∈ l
  | [], e, h => by simp [ge_E] at h
  | [a], e, h => by simp [ge_E] at h
  | a :: b :: l, e, h => by
    simp [ge_E] at h
    rcases h with h | h
    · subst h; simp
    · have := ge_E_mem h
      exact ⟨List.mem_cons_of_mem _ this.1, List.mem_cons_of_mem _ this.2⟩
theorem ge_Ed_mem {P : List ge_P} {e : ge_P × ge_P} (h : e ∈ ge_Ed P) : e.1 ∈ P ∧ e.2 ∈ P := by
  cases P with
  | nil => simp [ge_Ed, ge_cl, ge_E] at h
  | cons p l =>
    have := ge_E_mem h
    simp [ge_cl] at this
    simp; grind
theorem ge_E_succ : ∀ (l : List ge_P) (q : ge_P) {v : ge_P}, v ∈ l → ∃ w, (v, w) ∈ ge_E (l ++ [q])
  | [], q, v, h => by simp at h
  | [a], q, v, h => by simp at h; subst h; exact ⟨q, by simp [ge_E]⟩
  | a :: b :: l, q, v, h => by
    rcases List.mem_cons.mp h with h | h
    · subst h; exact ⟨b, by simp [ge_E]⟩
    · obtain ⟨w, hw⟩ := ge_E_succ (b :: l) q h
      exact ⟨w, by simp [ge_E] at hw ⊢; exact .inr hw⟩
theorem ge_Ed_succ {P : List ge_P} {v : ge_P} (h : v ∈ P) : ∃ w, (v, w) ∈ ge_Ed P := by
  cases P with
  | nil => simp at h
  | cons p l => exact ge_E_succ (p :: l) p h
theorem ge_E_ne : ∀ {l : List ge_P} {e : ge_P × ge_P}, l.Nodup → e ∈ ge_E l → e.1 ≠ e.2
  | [], e, _, h => by simp [ge_E] at h
  | [a], e, _, h => by simp [ge_E] at h
  | a :: b :: l, e, hn, h => by
    simp [ge_E] at h
    rcases h with h | h
    · subst h
      simp at hn ⊢
      exact hn.1.1
    · exact ge_E_ne (List.nodup_cons.mp hn).2 h
/-- the edges of a polygon that is read from a place p on: its first, those in between, its last -/
theorem ge_Ed_cons (p b a : ge_P) (M : List ge_P) : ge_Ed (p :: b :: M ++ [a]) = (p, b) :: (ge_E (b :: M ++ [a]) ++ [(a, p)]) := by
  have h := ge_E_app (b :: M) [p] a
  simp [ge_Ed, ge_cl, ge_E] at h ⊢
  exact h
theorem ge_S_ne {P : List ge_P} (h : ge_S P) {e : ge_P × ge_P} (he : e ∈ ge_Ed P) : e.1 ≠ e.2 := by
  obtain ⟨h1, h2, -⟩ := h
  match P, h1, h2, he with
  | p :: b :: L, h1, h2, he =>
    rcases List.eq_nil_or_concat L with h | ⟨M, a, h⟩
    · subst h; simp at h2
    · subst h
      rw [List.concat_eq_append] at *
      have e0 : p :: b :: (M ++ [a]) = p :: b :: M ++ [a] := by simp
      rw [e0, ge_Ed_cons] at he
      simp only [List.mem_cons, List.mem_append, List.not_mem_nil, or_false] at he
      rcases he with he | he | he
      · subst he; simp at h1 ⊢; exact h1.1.1
      · exact ge_E_ne (by simp at h1 ⊢; grind) he
      · subst he; simp at h1 ⊢; grind
/-- a corner on an edge is its end -/
theorem ge_V {P : List ge_P} (h : ge_S P) {v : ge_P} (hv : v ∈ P) {e : ge_P × ge_P} (he : e ∈ ge_Ed P) {i j k l : Int} (hw : ge_wt v v e.1 e.2 i j k l) : (v = e.1 ∧ l = 0) ∨ (v = e.2 ∧ k = 0) := by
  obtain ⟨w, hf⟩ := ge_Ed_succ hv
  obtain ⟨h1, h2, h3, h4, h5, h6, h7, h8⟩ := hw
  by_cases hfe : (v, w) = e
  · left
    subst hfe
    refine ⟨rfl, ?_⟩
    have hne := ge_S_ne h hf
    rcases (show l = 0 ∨ 0 < l by omega) with hl | hl
    · exact hl
    · exfalso
      apply hne
      simp at h7 h8
      have a1 : l * (w.1 - v.1) = 0 := by grind
      have a2 : l * (w.2 - v.2) = 0 := by grind
      rcases Int.mul_eq_zero.mp a1 with a1 | a1 <;> rcases Int.mul_eq_zero.mp a2 with a2 | a2 <;> first | omega | skip
      exact Prod.ext (by show v.1 = w.1; omega) (by show v.2 = w.2; omega)
  · have := h.2.2 _ hf _ he hfe (i + j) 0 k l ⟨by omega, by omega, h3, h4, by omega, by omega, by simp; grind, by simp; grind⟩
    rcases this with ⟨g, -, -⟩ | ⟨-, g1, g2⟩
    · omega
    · exact .inr ⟨g2, g1⟩
/-! leaving a triangle: a point of it (of the edge from c to d, with weights k, l), and c beyond -/
def ge_in (a p b x : ge_P) : Prop := 0 ≤ ge_x a p x ∧ 0 ≤ ge_x p b x ∧ 0 ≤ ge_x b a x
theorem ge_X1 {a p b c d : ge_P} {k l : Int} (hD : 0 < ge_x a p b) (hk : 0 ≤ k) (hl : 0 ≤ l) (hkl : 0 < k + l)
    (p1 : 0 ≤ k * ge_x a p c + l * ge_x a p d) (p2 : 0 ≤ k * ge_x p b c + l * ge_x p b d) (p3 : 0 ≤ k * ge_x b a c + l * ge_x b a d)
    (c1 : ge_x a p c < 0) (c3 : 0 ≤ ge_x b a c) (cc : (k * ge_x p b c + l * ge_x p b d) * ge_x a p c ≤ (k * ge_x a p c + l * ge_x a p d) * ge_x p b c) :
    ge_wt a p c d (- ge_x a p c * (k * ge_x p b c + l * ge_x p b d) + (k * ge_x a p c + l * ge_x a p d) * ge_x p b c) (- ge_x a p c * (k * ge_x b a c + l * ge_x b a d) + (k * ge_x a p c + l * ge_x a p d) * ge_x b a c)
      (ge_x a p b * (- ge_x a p c * k + (k * ge_x a p c + l * ge_x a p d))) (ge_x a p b * (- ge_x a p c * l)) := by
  have q1 := Int.mul_nonneg (show 0 ≤ - ge_x a p c by omega) p3
  have q2 := Int.mul_nonneg p1 c3
  have q3 := Int.mul_nonneg (show 0 ≤ - ge_x a p c by omega) hl
  have q4 := Int.mul_nonneg (show 0 ≤ - ge_x a p c by omega) hk
  have q5 := Int.mul_nonneg (show 0 ≤ ge_x a p b by omega) q3
  have q6 := Int.mul_nonneg (show 0 ≤ ge_x a p b by omega) (show 0 ≤ - ge_x a p c * k + (k * ge_x a p c + l * ge_x a p d) by omega)
  have q7 := Int.mul_pos (show 0 < - ge_x a p c by omega) hkl
  have q8 : 0 < - ge_x a p c * k + (k * ge_x a p c + l * ge_x a p d) + - ge_x a p c * l := by grind
  have q9 := Int.mul_pos hD q8
  have s1 := (ge_bary a p b c).1
  have s2 := (ge_bary a p b d).1
  have hsum : (- ge_x a p c * (k * ge_x p b c + l * ge_x p b d) + (k * ge_x a p c + l * ge_x a p d) * ge_x p b c) + (- ge_x a p c * (k * ge_x b a c + l * ge_x b a d) + (k * ge_x a p c + l * ge_x a p d) * ge_x b a c) = ge_x a p b * (- ge_x a p c * k + (k * ge_x a p c + l * ge_x a p d) + - ge_x a p c * l) := by
    have e3 : ge_x b a c = ge_x a p b - ge_x p b c - ge_x a p c := by omega
    have e4 : ge_x b a d = ge_x a p b - ge_x p b d - ge_x a p d := by omega
    rw [e3, e4]
    clear q1 q2 q3 q4 q5 q6 q7 q8 q9 s1 s2 p1 p2 p3 c1 c3 cc e3 e4 hD hk hl hkl
    generalize ge_x a p b = D, ge_x a p c = A, ge_x a p d = B, ge_x p b c = E, ge_x p b d = F
    grind
  refine ⟨?_, by omega, q6, q5, by omega, ?_, ?_, ?_⟩
  · have : - ge_x a p c * (k * ge_x p b c + l * ge_x p b d) = - ((k * ge_x p b c + l * ge_x p b d) * ge_x a p c) := by rw [Int.neg_mul, Int.mul_comm]
    omega
  · rw [hsum, ← Int.mul_add]
  · clear hsum q1 q2 q3 q4 q5 q6 q7 q8 q9 s1 s2 p1 p2 p3 c1 c3 cc hD hk hl hkl
    unfold ge_x; grind
  · clear hsum q1 q2 q3 q4 q5 q6 q7 q8 q9 s1 s2 p1 p2 p3 c1 c3 cc hD hk hl hkl
    unfold ge_x; grind
def ge_m (x : ge_P) : ge_P := (- x.1, x.2)
theorem ge_x_m (a b c : ge_P) : ge_x (ge_m a) (ge_m b) (ge_m c) = - ge_x a b c := by unfold ge_x ge_m; grind
theorem ge_wt_m {a b x y : ge_P} {i j k l : Int} (h : ge_wt (ge_m a) (ge_m b) (ge_m x) (ge_m y) i j k l) : ge_wt a b x y i j k l := by
  obtain ⟨h1, h2, h3, h4, h5, h6, h7, h8⟩ := h
  simp only [ge_m] at h7 h8
  exact ⟨h1, h2, h3, h4, h5, h6, by grind, h8⟩
theorem ge_X2 {a p b c d : ge_P} {k l : Int} (hD : 0 < ge_x a p b) (hk : 0 ≤ k) (hl : 0 ≤ l) (hkl : 0 < k + l)
    (p1 : 0 ≤ k * ge_x a p c + l * ge_x a p d) (p2 : 0 ≤ k * ge_x p b c + l * ge_x p b d) (p3 : 0 ≤ k * ge_x b a c + l * ge_x b a d)
    (c1 : ge_x p b c < 0) (c3 : 0 ≤ ge_x b a c) (cc : (k * ge_x a p c + l * ge_x a p d) * ge_x p b c ≤ (k * ge_x p b c + l * ge_x p b d) * ge_x a p c) :
    ge_wt b p c d (- ge_x p b c * (k * ge_x a p c + l * ge_x a p d) + (k * ge_x p b c + l * ge_x p b d) * ge_x a p c) (- ge_x p b c * (k * ge_x b a c + l * ge_x b a d) + (k * ge_x p b c + l * ge_x p b d) * ge_x b a c)
      (ge_x a p b * (- ge_x p b c * k + (k * ge_x p b c + l * ge_x p b d))) (ge_x a p b * (- ge_x p b c * l)) := by
  have e : ∀ u v w : ge_P, ge_x (ge_m u) (ge_m v) (ge_m w) = ge_x v u w := fun u v w => by rw [ge_x_m, ge_x_swap]; omega
  have e0 : ge_x (ge_m b) (ge_m p) (ge_m a) = ge_x a p b := by rw [e, ge_x_rot a p b]
  apply ge_wt_m
  have := ge_X1 (a := ge_m b) (p := ge_m p) (b := ge_m a) (c := ge_m c) (d := ge_m d) (k := k) (l := l) (by rw [e0]; exact hD) hk hl hkl
    (by rw [e, e]; exact p2) (by rw [e, e]; exact p1) (by rw [e, e]; exact p3) (by rw [e]; exact c1) (by rw [e]; exact c3) (by rw [e, e, e, e]; exact cc)
  rw [e, e, e, e, e, e, e0] at this
  exact this
theorem ge_swap_in {P : List ge_P} (hP : ge_S P) {f e : ge_P × ge_P} (hf : f ∈ ge_Ed P) (he : e ∈ ge_Ed P) (hfe : f ≠ e) {c d : ge_P} (hcd : (c = e.1 ∧ d = e.2) ∨ (c = e.2 ∧ d = e.1)) {i j k l : Int} (hw : ge_wt f.1 f.2 c d i j k l) :
    (i = 0 ∧ (f.2 = c ∨ f.2 = d)) ∨ (j = 0 ∧ (f.1 = c ∨ f.1 = d)) := by
  have hok := hP.2.2 f hf e he hfe
  rcases hcd with ⟨h1, h2⟩ | ⟨h1, h2⟩ <;> subst h1 <;> subst h2
  · rcases hok _ _ _ _ hw with ⟨g1, -, g3⟩ | ⟨g1, -, g3⟩
    · exact .inl ⟨g1, .inl g3⟩
    · exact .inr ⟨g1, .inr g3⟩
  · rcases hok _ _ _ _ (ge_wt_swap2 hw) with ⟨g1, -, g3⟩ | ⟨g1, -, g3⟩
    · exact .inl ⟨g1, .inr g3⟩
    · exact .inr ⟨g1, .inl g3⟩
/-- no edge in between leaves the corner's triangle by the corner's edges -/
theorem ge_NX {p b a : ge_P} {M : List ge_P} (hP : ge_S (p :: b :: M ++ [a])) (hD : 0 < ge_x a p b) {e : ge_P × ge_P} (he : e ∈ ge_E (b :: M ++ [a])) {c d : ge_P} (hcd : (c = e.1 ∧ d = e.2) ∨ (c = e.2 ∧ d = e.1))
    {k l : Int} (hk : 0 ≤ k) (hl : 0 ≤ l) (hkl : 0 < k + l)
    (p1 : 0 ≤ k * ge_x a p c + l * ge_x a p d) (p2 : 0 ≤ k * ge_x p b c + l * ge_x p b d) (p3 : 0 ≤ k * ge_x b a c + l * ge_x b a d) (c3 : 0 ≤ ge_x b a c) (hc : ge_x a p c < 0 ∨ ge_x p b c < 0)
    (hpos : 0 < k * ge_x b a c + l * ge_x b a d ∨ (0 < ge_x b a c ∧ 0 < k * ge_x a p c + l * ge_x a p d ∧ 0 < k * ge_x p b c + l * ge_x p b d)) : False := by
  have hEd := ge_Ed_cons p b a M
  have heP : e ∈ ge_Ed (p :: b :: M ++ [a]) := by rw [hEd]; simp at he ⊢; exact .inr (.inl he)
  have hpn : p ∉ b :: M ++ [a] := by have := hP.1; simp at this ⊢; grind
  have hm := ge_E_mem he
  have n1 : p ≠ c := by rcases hcd with ⟨h, -⟩ | ⟨h, -⟩ <;> (subst h; intro h; rw [h] at hpn; exact hpn (by first | exact hm.1 | exact hm.2))
  have n2 : p ≠ d := by rcases hcd with ⟨-, h⟩ | ⟨-, h⟩ <;> (subst h; intro h; rw [h] at hpn; exact hpn (by first | exact hm.1 | exact hm.2))
  have f1 : (a, p) ∈ ge_Ed (p :: b :: M ++ [a]) := by rw [hEd]; simp
  have f2 : (p, b) ∈ ge_Ed (p :: b :: M ++ [a]) := by rw [hEd]; simp
  have g1 : (a, p) ≠ e := by intro h; subst h; exact hpn hm.2
  have g2 : (p, b) ≠ e := by intro h; subst h; exact hpn hm.1
  have k1 : ge_x a p c < 0 → (k * ge_x p b c + l * ge_x p b d) * ge_x a p c ≤ (k * ge_x a p c + l * ge_x a p d) * ge_x p b c → False := by
    intro c1 cc
    have hw := ge_X1 hD hk hl hkl p1 p2 p3 c1 c3 cc
    have q1 := Int.mul_nonneg (show 0 ≤ - ge_x a p c by omega) p3
    have q2 := Int.mul_nonneg p1 c3
    rcases ge_swap_in hP f1 heP g1 hcd hw with ⟨-, h⟩ | ⟨h, -⟩
    · rcases h with h | h
      · exact n1 h
      · exact n2 h
    · rcases hpos with hp | ⟨hp1, hp2, -⟩
      · have := Int.mul_pos (show 0 < - ge_x a p c by omega) hp
        omega
      · have := Int.mul_pos hp2 hp1
        omega
  have k2 : ge_x p b c < 0 → (k * ge_x a p c + l * ge_x a p d) * ge_x p b c ≤ (k * ge_x p b c + l * ge_x p b d) * ge_x a p c → False := by
    intro c1 cc
    have hw := ge_X2 hD hk hl hkl p1 p2 p3 c1 c3 cc
    have q1 := Int.mul_nonneg (show 0 ≤ - ge_x p b c by omega) p3
    have q2 := Int.mul_nonneg p2 c3
    rcases ge_swap_in hP f2 heP g2 hcd (ge_wt_swap hw) with ⟨h, -⟩ | ⟨-, h⟩
    · rcases hpos with hp | ⟨hp1, -, hp2⟩
      · have := Int.mul_pos (show 0 < - ge_x p b c by omega) hp
        omega
      · have := Int.mul_pos hp2 hp1
        omega
    · rcases h with h | h
      · exact n1 h
      · exact n2 h
  rcases Int.lt_or_le (ge_x a p c) 0 with c1 | c1
  · rcases Int.lt_or_le (ge_x p b c) 0 with c2 | c2
    · rcases Int.le_total ((k * ge_x p b c + l * ge_x p b d) * ge_x a p c) ((k * ge_x a p c + l * ge_x a p d) * ge_x p b c) with h | h
      · exact k1 c1 h
      · exact k2 c2 h
    · have r1 := Int.mul_nonneg p1 c2
      have r2 := Int.mul_nonneg p2 (show 0 ≤ - ge_x a p c by omega)
      exact k1 c1 (by grind)
  · have c2 : ge_x p b c < 0 := by omega
    have r1 := Int.mul_nonneg p2 c1
    have r2 := Int.mul_nonneg p1 (show 0 ≤ - ge_x p b c by omega)
    exact k2 c2 (by grind)
theorem ge_aff {a b c d : ge_P} {i j k l : Int} (h : ge_wt a b c d i j k l) (u v : ge_P) : k * ge_x u v c + l * ge_x u v d = i * ge_x u v a + j * ge_x u v b := by
  obtain ⟨-, -, -, -, -, h6, h7, h8⟩ := h
  have e : i = k + l - j := by omega
  subst e
  unfold ge_x
  grind
theorem ge_x_00 (a b : ge_P) : ge_x a b a = 0 ∧ ge_x a b b = 0 ∧ ge_x a a b = 0 := by unfold ge_x; grind
theorem ge_E_last {l : List ge_P} {a w : ge_P} (hn : (l ++ [a]).Nodup) : (a, w) ∉ ge_E (l ++ [a]) := by
  induction l with
  | nil => simp [ge_E]
  | cons c l ih =>
    cases l with
    | nil => simp [ge_E] at hn ⊢; grind
    | cons d l =>
      simp [ge_E] at ih hn ⊢
      grind
theorem ge_E_snd {b c w : ge_P} {l : List ge_P} (hn : (b :: c :: l).Nodup) (h : (b, w) ∈ ge_E (b :: c :: l)) : w = c := by
  simp [ge_E] at h
  rcases h with h | h
  · exact h
  · have := (ge_E_mem h).1
    have := (List.nodup_cons.mp hn).1
    contradiction
theorem ge_ar {k l j i A B D : Int} (hk : 0 < k) (hl : 0 < l) (hj : 0 < j) (hi : 0 < i) (hs : i + j = k + l) (hD : 0 < D) (h : k * A + l * B = j * D) (n1 : ¬ (0 < A ∧ A < D)) (n2 : ¬ (0 < B ∧ B < D)) : (A ≤ 0 ∧ D ≤ B) ∨ (B ≤ 0 ∧ D ≤ A) := by
  have pj := Int.mul_pos hj hD
  have pi := Int.mul_pos hi hD
  rcases Int.lt_or_le 0 A with hA | hA
  · rcases Int.lt_or_le 0 B with hB | hB
    · have q1 := Int.mul_nonneg (Int.le_of_lt hk) (show 0 ≤ A - D by omega)
      have q2 := Int.mul_nonneg (Int.le_of_lt hl) (show 0 ≤ B - D by omega)
      have e : i = k + l - j := by omega
      subst e
      grind
    · exact .inr ⟨hB, by omega⟩
  · rcases Int.lt_or_le 0 B with hB | hB
    · exact .inl ⟨hA, by omega⟩
    · have q1 := Int.mul_nonneg (Int.le_of_lt hk) (show 0 ≤ - A by omega)
      have q2 := Int.mul_nonneg (Int.le_of_lt hl) (show 0 ≤ - B by omega)
      grind
/-- a corner whose triangle is empty can be cut off -/
theorem ge_ear_cf {p b a : ge_P} {M : List ge_P} (hP : ge_S (p :: b :: M ++ [a])) (hM : M ≠ []) (hD : 0 < ge_x a p b) (hem : ∀ v ∈ M, ¬ ge_in a p b v) {e : ge_P × ge_P} (he : e ∈ ge_E (b :: M ++ [a])) : ge_cf a b e := by
  have hEd := ge_Ed_cons p b a M
  have heP : e ∈ ge_Ed (p :: b :: M ++ [a]) := by rw [hEd]; simp at he ⊢; exact .inr (.inl he)
  have hn := hP.1
  have hm := ge_E_mem he
  intro i j k l hw
  obtain ⟨hi, hj, hk, hl, hs, hs2, h7, h8⟩ := id hw
  have haP : a ∈ p :: b :: M ++ [a] := by simp
  have hbP : b ∈ p :: b :: M ++ [a] := by simp
  rcases (show i = 0 ∨ 0 < i by omega) with hi0 | hi0
  · left
    subst hi0
    refine ⟨rfl, ?_⟩
    exact ge_V hP hbP heP (i := j) (j := 0) ⟨by omega, by omega, hk, hl, by omega, by omega, by grind, by grind⟩
  rcases (show j = 0 ∨ 0 < j by omega) with hj0 | hj0
  · right
    subst hj0
    refine ⟨rfl, ?_⟩
    exact ge_V hP haP heP (i := i) (j := 0) ⟨by omega, by omega, hk, hl, by omega, by omega, by grind, by grind⟩
  exfalso
  have a1 := ge_aff hw a p
  have a2 := ge_aff hw p b
  have a3 := ge_aff hw b a
  have z1 := ge_x_00 a p
  have z2 := ge_x_00 p b
  have z3 := ge_x_00 b a
  have hD2 : ge_x p b a = ge_x a p b := (ge_x_rot a p b).symm
  rw [z1.1] at a1
  rw [z2.2.1, hD2] at a2
  rw [z3.1, z3.2.1] at a3
  simp only [Int.mul_zero, Int.zero_add, Int.add_zero] at a1 a2 a3
  have pj := Int.mul_pos hj0 hD
  have pi := Int.mul_pos hi0 hD
  -- a corner in between that lies in the triangle is a or b
  have hin : ∀ v ∈ b :: M ++ [a], ge_in a p b v → v = a ∨ v = b := by
    intro v hv hi
    simp at hv
    rcases hv with h | h | h
    · exact .inr h
    · exact absurd hi (hem v h)
    · exact .inl h
  have far : ∀ c d : ge_P, ∀ k l : Int, ((c = e.1 ∧ d = e.2) ∨ (c = e.2 ∧ d = e.1)) → 0 ≤ k → 0 ≤ l → 0 < k + l → k * ge_x a p c + l * ge_x a p d = j * ge_x a p b → k * ge_x p b c + l * ge_x p b d = i * ge_x a p b → k * ge_x b a c + l * ge_x b a d = 0 → c ∈ b :: M ++ [a] → ¬ 0 < ge_x b a c := by
    intro c d k l hcd hk hl hkl b1 b2 b3 hc h
    rcases Int.lt_or_le (ge_x a p c) 0 with q1 | q1
    · exact ge_NX hP hD he hcd hk hl hkl (by omega) (by omega) (by omega) (by omega) (.inl q1) (.inr ⟨h, by omega, by omega⟩)
    · rcases Int.lt_or_le (ge_x p b c) 0 with q2 | q2
      · exact ge_NX hP hD he hcd hk hl hkl (by omega) (by omega) (by omega) (by omega) (.inr q2) (.inr ⟨h, by omega, by omega⟩)
      · rcases hin c hc ⟨q1, q2, by omega⟩ with g | g
        · subst g; omega
        · subst g; omega
  have c3 : ge_x b a e.1 ≤ 0 := by
    have := far e.1 e.2 k l (.inl ⟨rfl, rfl⟩) hk hl (by omega) a1 a2 a3 hm.1
    omega
  have d3 : ge_x b a e.2 ≤ 0 := by
    have := far e.2 e.1 l k (.inr ⟨rfl, rfl⟩) hl hk (by omega) (by omega) (by omega) (by omega) hm.2
    omega
  have m1 := Int.mul_nonneg hk (show 0 ≤ - ge_x b a e.1 by omega)
  have m2 := Int.mul_nonneg hl (show 0 ≤ - ge_x b a e.2 by omega)
  have s1 := (ge_bary a p b e.1).1
  have s2 := (ge_bary a p b e.2).1
  -- an end strictly within the side from a to b
  have inner : ∀ c ∈ b :: M ++ [a], ge_x b a c = 0 → ¬ (0 < ge_x a p c ∧ 0 < ge_x p b c) := by
    intro c hc h0 ⟨q1, q2⟩
    rcases hin c hc ⟨by omega, by omega, by omega⟩ with g | g
    · subst g; omega
    · subst g; omega
  rcases (show k = 0 ∨ 0 < k by omega) with hk0 | hk0
  · subst hk0
    simp only [Int.zero_mul, Int.zero_add] at a1 a2 a3
    have r3 : ge_x b a e.2 = 0 := by rcases Int.mul_eq_zero.mp a3 with h | h <;> omega
    have r1 : 0 < ge_x a p e.2 := by
      rcases Int.lt_or_le 0 (ge_x a p e.2) with h | h
      · exact h
      · have := Int.mul_nonneg hl (show 0 ≤ - ge_x a p e.2 by omega); grind
    have r2 : 0 < ge_x p b e.2 := by
      rcases Int.lt_or_le 0 (ge_x p b e.2) with h | h
      · exact h
      · have := Int.mul_nonneg hl (show 0 ≤ - ge_x p b e.2 by omega); grind
    exact inner e.2 hm.2 r3 ⟨r1, r2⟩
  rcases (show l = 0 ∨ 0 < l by omega) with hl0 | hl0
  · subst hl0
    simp only [Int.zero_mul, Int.add_zero] at a1 a2 a3
    have r3 : ge_x b a e.1 = 0 := by rcases Int.mul_eq_zero.mp a3 with h | h <;> omega
    have r1 : 0 < ge_x a p e.1 := by
      rcases Int.lt_or_le 0 (ge_x a p e.1) with h | h
      · exact h
      · have := Int.mul_nonneg hk (show 0 ≤ - ge_x a p e.1 by omega); grind
    have r2 : 0 < ge_x p b e.1 := by
      rcases Int.lt_or_le 0 (ge_x p b e.1) with h | h
      · exact h
      · have := Int.mul_nonneg hk (show 0 ≤ - ge_x p b e.1 by omega); grind
    exact inner e.1 hm.1 r3 ⟨r1, r2⟩
  have r3 : ge_x b a e.1 = 0 := by
    have : k * ge_x b a e.1 = 0 := by grind
    rcases Int.mul_eq_zero.mp this with h | h <;> omega
  have r4 : ge_x b a e.2 = 0 := by
    have : l * ge_x b a e.2 = 0 := by grind
    rcases Int.mul_eq_zero.mp this with h | h <;> omega
  have i1 := inner e.1 hm.1 r3
  have i2 := inner e.2 hm.2 r4
  -- a is on the edge, and b
  have line : ∀ c d : ge_P, ((c = e.1 ∧ d = e.2) ∨ (c = e.2 ∧ d = e.1)) → ge_x b a c = 0 → ge_x b a d = 0 → ge_x a p c ≤ 0 → ge_x a p b ≤ ge_x a p d → c = a ∧ d = b := by
    intro c d hcd q1 q2 q3 q4
    have y1 := ge_bary a p b c
    have y2 := ge_bary a p b d
    have hne : ge_x a p b ≠ 0 := by omega
    have on1 : ∀ f1 f2 : Int, f1 = ge_x a p c → f2 = ge_x a p d → ge_wt a a c d (f2 - f1) 0 f2 (-f1) := by
      intro f1 f2 g1 g2
      refine ⟨by omega, by omega, by omega, by omega, by omega, by omega, ?_, ?_⟩
      · apply Int.eq_of_mul_eq_mul_left hne
        subst g1; subst g2
        unfold ge_x at *
        grind
      · apply Int.eq_of_mul_eq_mul_left hne
        subst g1; subst g2
        unfold ge_x at *
        grind
    have on2 : ∀ f1 f2 D : Int, f1 = ge_x a p c → f2 = ge_x a p d → D = ge_x a p b → ge_wt b b c d (f2 - f1) 0 (f2 - D) (D - f1) := by
      intro f1 f2 D g1 g2 g3
      refine ⟨by omega, by omega, by omega, by omega, by omega, by omega, ?_, ?_⟩
      · apply Int.eq_of_mul_eq_mul_left hne
        subst g1; subst g2; subst g3
        unfold ge_x at *
        grind
      · apply Int.eq_of_mul_eq_mul_left hne
        subst g1; subst g2; subst g3
        unfold ge_x at *
        grind
    have w1 := on1 _ _ rfl rfl
    have w2 := on2 _ _ _ rfl rfl rfl
    rcases hcd with ⟨h1, h2⟩ | ⟨h1, h2⟩ <;> subst h1 <;> subst h2
    · constructor
      · rcases ge_V hP haP heP w1 with ⟨g, -⟩ | ⟨g, -⟩
        · exact g.symm
        · rw [← g] at q4; omega
      · rcases ge_V hP hbP heP w2 with ⟨g, -⟩ | ⟨g, -⟩
        · rw [← g] at q3; omega
        · exact g.symm
    · constructor
      · rcases ge_V hP haP heP (ge_wt_swap2 w1) with ⟨g, -⟩ | ⟨g, -⟩
        · rw [← g] at q4; omega
        · exact g.symm
      · rcases ge_V hP hbP heP (ge_wt_swap2 w2) with ⟨g, -⟩ | ⟨g, -⟩
        · exact g.symm
        · rw [← g] at q3; omega
  have hnB : (b :: M ++ [a]).Nodup := by simp at hn ⊢; grind
  have t1 : ge_x a p e.1 ≤ 0 ∧ ge_x a p b ≤ ge_x a p e.2 → False := by
    intro ⟨g1, g2⟩
    obtain ⟨h1, h2⟩ := line e.1 e.2 (.inl ⟨rfl, rfl⟩) r3 r4 g1 g2
    obtain ⟨e1, e2⟩ := e
    dsimp only at h1 h2
    subst h1
    exact ge_E_last (l := b :: M) hnB he
  have t2 : ge_x a p e.2 ≤ 0 ∧ ge_x a p b ≤ ge_x a p e.1 → False := by
    intro ⟨g1, g2⟩
    obtain ⟨h1, h2⟩ := line e.2 e.1 (.inr ⟨rfl, rfl⟩) r4 r3 g1 g2
    cases M with
    | nil => exact hM rfl
    | cons m M =>
      obtain ⟨e1, e2⟩ := e
      dsimp only at h1 h2
      subst h1
      subst h2
      have := ge_E_snd (c := m) (l := M ++ [e2]) (by simpa using hnB) (by simpa using he)
      subst this
      simp at hnB
  -- where they lie
  rcases ge_ar hk0 hl0 hj0 hi0 hs2 hD a1 (fun g => i1 ⟨g.1, by omega⟩) (fun g => i2 ⟨g.1, by omega⟩) with g | g
  · exact t1 g
  · exact t2 g
