/-! routes: which sides cross, and whether it is simple -/
abbrev ge_fb (a b d : ge_P) : Prop := (a ≠ b ∧ ge_on b d a) ∨ (d ≠ b ∧ ge_on a b d)
def cr_b (rg : Nat → ge_P) (m i k : Nat) : Bool := if nx m i = k then decide (ge_fb (rg i) (rg k) (rg (nx m k))) else if nx m k = i then decide (ge_fb (rg k) (rg i) (rg (nx m i))) else decide (ge_sh (rg i) (rg (nx m i)) (rg k) (rg (nx m k)))
def cr_i (rg : Nat → ge_P) (m i : Nat) : Nat → List Int → List Int := fun k L => if cr_b rg m i k = true then L ++ [64 * (i : Int) + k] else L
def cr_o (rg : Nat → ge_P) (m : Nat) : Nat → List Int → List Int := fun i L => fo (cr_i rg m i) L (i + 1) m
/-- the pairs of sides that cross -/
def cr_l (rg : Nat → ge_P) (m : Nat) : List Int := if m < 3 then [] else fo (cr_o rg m) [] 0 m
/-- what has been found before the pair (i, k) -/
def cr_p (rg : Nat → ge_P) (m i k : Nat) : List Int := fo (cr_i rg m i) (fo (cr_o rg m) [] 0 i) (i + 1) k
theorem cr_p_0 (rg : Nat → ge_P) (m : Nat) {i k : Nat} (h : k ≤ i + 1) : cr_p rg m i k = fo (cr_o rg m) [] 0 i := fo_0 h
theorem cr_p_t {rg : Nat → ge_P} {m i k : Nat} (h : i < k) (hb : cr_b rg m i k = true) : cr_p rg m i (k + 1) = cr_p rg m i k ++ [64 * (i : Int) + k] := by
  have e : cr_p rg m i (k + 1) = cr_i rg m i k (cr_p rg m i k) := fo_s (by omega)
  rw [e]
  exact if_pos hb
theorem cr_p_f {rg : Nat → ge_P} {m i k : Nat} (h : i < k) (hb : ¬ cr_b rg m i k = true) : cr_p rg m i (k + 1) = cr_p rg m i k := by
  have e : cr_p rg m i (k + 1) = cr_i rg m i k (cr_p rg m i k) := fo_s (by omega)
  rw [e]
  exact if_neg hb
theorem cr_p_m (rg : Nat → ge_P) (m i : Nat) : cr_p rg m i m = fo (cr_o rg m) [] 0 (i + 1) := by
  have e : fo (cr_o rg m) [] 0 (i + 1) = cr_o rg m i (fo (cr_o rg m) [] 0 i) := fo_s (by omega)
  rw [e]
  rfl
theorem cr_l_3 {rg : Nat → ge_P} {m : Nat} (h : 3 ≤ m) : cr_l rg m = fo (cr_o rg m) [] 0 m := if_neg (by omega)
theorem cr_l_0 {rg : Nat → ge_P} {m : Nat} (h : m < 3) : cr_l rg m = [] := if_pos h
/-- lists only grow -/
theorem cr_p_pre (rg : Nat → ge_P) (m i : Nat) : ∀ k k', k ≤ k' → ∃ r, cr_p rg m i k' = cr_p rg m i k ++ r := by
  intro k k' h
  induction k' with
  | zero => exact ⟨[], by rw [show k = 0 by omega, List.append_nil]⟩
  | succ k' ih =>
    rcases (show k = k' + 1 ∨ k ≤ k' by omega) with g | g
    · exact ⟨[], by rw [g, List.append_nil]⟩
    · obtain ⟨r, hr⟩ := ih g
      rcases (show k' ≤ i ∨ i < k' by omega) with q | q
      · refine ⟨r, ?_⟩
        rw [cr_p_0 rg m (by omega)]
        rw [cr_p_0 rg m (by omega)] at hr
        exact hr
      · by_cases hb : cr_b rg m i k' = true
        · exact ⟨r ++ [64 * (i : Int) + k'], by rw [cr_p_t q hb, hr, List.append_assoc]⟩
        · exact ⟨r, by rw [cr_p_f q hb, hr]⟩
theorem cr_o_pre (rg : Nat → ge_P) (m : Nat) : ∀ i i', i ≤ i' → ∃ r, fo (cr_o rg m) [] 0 i' = fo (cr_o rg m) [] 0 i ++ r := by
  intro i i' h
  induction i' with
  | zero => exact ⟨[], by rw [show i = 0 by omega, List.append_nil]⟩
  | succ i' ih =>
    rcases (show i = i' + 1 ∨ i ≤ i' by omega) with g | g
    · exact ⟨[], by rw [g, List.append_nil]⟩
    · obtain ⟨r, hr⟩ := ih g
      obtain ⟨r2, hr2⟩ := cr_p_pre rg m i' 0 m (Nat.zero_le _)
      rw [cr_p_m, cr_p_0 rg m (Nat.zero_le _), hr] at hr2
      exact ⟨r ++ r2, by rw [hr2, List.append_assoc]⟩
theorem cr_pre {rg : Nat → ge_P} {m i k : Nat} (h3 : 3 ≤ m) (hi : i < m) (hk : k ≤ m) : ∃ r, cr_l rg m = cr_p rg m i k ++ r := by
  obtain ⟨r1, h1⟩ := cr_p_pre rg m i k m hk
  obtain ⟨r2, h2⟩ := cr_o_pre rg m (i + 1) m (by omega)
  rw [← cr_p_m, h1] at h2
  exact ⟨r1 ++ r2, by rw [cr_l_3 h3, h2, List.append_assoc]⟩
/-- how long they get -/
theorem cr_len (rg : Nat → ge_P) (m : Nat) : ∀ i, i ≤ m → 2 * ((fo (cr_o rg m) [] 0 i).length : Int) + ((m : Int) - i) * ((m : Int) - i - 1) ≤ (m : Int) * ((m : Int) - 1) ∧ ∀ k, i < k → k ≤ m → 2 * ((cr_p rg m i k).length : Int) + 2 * ((m : Int) - k) + ((m : Int) - i - 1) * ((m : Int) - i - 2) ≤ (m : Int) * ((m : Int) - 1) := by
  intro i
  induction i with
  | zero =>
    intro hi
    have b0 : 2 * ((fo (cr_o rg m) [] 0 0).length : Int) + ((m : Int) - (0 : Nat)) * ((m : Int) - (0 : Nat) - 1) ≤ (m : Int) * ((m : Int) - 1) := by
      show 2 * (0 : Int) + ((m : Int) - 0) * ((m : Int) - 0 - 1) ≤ (m : Int) * ((m : Int) - 1)
      simp
    refine ⟨b0, ?_⟩
    intro k
    induction k with
    | zero => intro h; omega
    | succ k ih =>
      intro h1 h2
      rcases (show k = 0 ∨ 0 < k by omega) with q | q
      · subst q
        rw [cr_p_0 rg m (by omega)]
        have e : ((m : Int) - (0 : Nat)) * ((m : Int) - (0 : Nat) - 1) = 2 * ((m : Int) - (0 + 1 : Nat)) + ((m : Int) - (0 : Nat) - 1) * ((m : Int) - (0 : Nat) - 2) := by
          have : ((0 : Nat) : Int) = 0 := rfl
          have : ((0 + 1 : Nat) : Int) = 1 := rfl
          grind
        omega
      · have ik := ih q (by omega)
        by_cases hb : cr_b rg m 0 k = true
        · rw [cr_p_t q hb, List.length_append]
          simp only [List.length_singleton, Int.natCast_add]
          omega
        · rw [cr_p_f q hb]
          omega
  | succ i ihi =>
    intro hi
    have b0 : 2 * ((fo (cr_o rg m) [] 0 (i + 1)).length : Int) + ((m : Int) - (i + 1 : Nat)) * ((m : Int) - (i + 1 : Nat) - 1) ≤ (m : Int) * ((m : Int) - 1) := by
      have := (ihi (by omega)).2 m (by omega) (Nat.le_refl _)
      rw [cr_p_m] at this
      have e : ((m : Int) - (i + 1 : Nat)) * ((m : Int) - (i + 1 : Nat) - 1) = ((m : Int) - i - 1) * ((m : Int) - i - 2) := by
        rw [Int.natCast_add]
        grind
      omega
    refine ⟨b0, ?_⟩
    intro k
    induction k with
    | zero => intro h; omega
    | succ k ih =>
      intro h1 h2
      rcases (show k = i + 1 ∨ i + 1 < k by omega) with q | q
      · subst q
        rw [cr_p_0 rg m (by omega)]
        have e : ((m : Int) - (i + 1 : Nat)) * ((m : Int) - (i + 1 : Nat) - 1) = 2 * ((m : Int) - (i + 1 + 1 : Nat)) + ((m : Int) - (i + 1 : Nat) - 1) * ((m : Int) - (i + 1 : Nat) - 2) := by
          rw [Int.natCast_add (i + 1) 1]
          grind
        omega
      · have ik := ih q (by omega)
        by_cases hb : cr_b rg m (i + 1) k = true
        · have el : ((cr_p rg m (i + 1) k ++ [64 * ((i + 1 : Nat) : Int) + k]).length : Int) = (cr_p rg m (i + 1) k).length + 1 := by
            rw [List.length_append]; rfl
          rw [cr_p_t q hb, el]
          omega
        · rw [cr_p_f q hb]
          omega
theorem cr_len_lt {rg : Nat → ge_P} {m i k : Nat} (hm : m ≤ 40) (hi : i < k) (hk : k < m) : (cr_p rg m i k).length < 780 := by
  have := (cr_len rg m i (by omega)).2 k hi (by omega)
  have q1 := Int.mul_nonneg (show 0 ≤ (m : Int) - i - 1 by omega) (show 0 ≤ (m : Int) - i - 2 by omega)
  have q2 : (m : Int) * ((m : Int) - 1) ≤ 1560 := by
    have a := Int.mul_nonneg (show 0 ≤ 40 - (m : Int) by omega) (show 0 ≤ (m : Int) + 39 by omega)
    have e : (40 - (m : Int)) * ((m : Int) + 39) = 1560 - (m : Int) * ((m : Int) - 1) := by grind
    omega
  omega
theorem cr_len_le {rg : Nat → ge_P} {m : Nat} (hm : m ≤ 40) : (cr_l rg m).length ≤ 780 := by
  by_cases h3 : 3 ≤ m
  · rw [cr_l_3 h3]
    have := (cr_len rg m m (Nat.le_refl _)).1
    have q2 : (m : Int) * ((m : Int) - 1) ≤ 1560 := by
      have a := Int.mul_nonneg (show 0 ≤ 40 - (m : Int) by omega) (show 0 ≤ (m : Int) + 39 by omega)
      have e : (40 - (m : Int)) * ((m : Int) + 39) = 1560 - (m : Int) * ((m : Int) - 1) := by grind
      omega
    have e : ((m : Int) - m) * ((m : Int) - m - 1) = 0 := by
      rw [show (m : Int) - m = 0 by omega]; simp
    omega
  · rw [cr_l_0 (by omega)]
    simp
/-- their numbers -/
theorem cr_mem {rg : Nat → ge_P} {m : Nat} (hm : m ≤ 40) : ∀ v ∈ cr_l rg m, 0 ≤ v ∧ v < 4096 := by
  by_cases h3 : 3 ≤ m
  · rw [cr_l_3 h3]
    have key : ∀ i, i ≤ m → ∀ v ∈ fo (cr_o rg m) [] 0 i, 0 ≤ v ∧ v < 4096 := by
      intro i
      induction i with
      | zero => intro _ v hv; exact absurd hv (List.not_mem_nil)
      | succ i ih =>
        intro hi
        rw [← cr_p_m]
        have key2 : ∀ k, k ≤ m → ∀ v ∈ cr_p rg m i k, 0 ≤ v ∧ v < 4096 := by
          intro k
          induction k with
          | zero => intro _; rw [cr_p_0 rg m (by omega)]; exact ih (by omega)
          | succ k ik =>
            intro hk
            rcases (show k ≤ i ∨ i < k by omega) with q | q
            · rw [cr_p_0 rg m (by omega)]; exact ih (by omega)
            · by_cases hb : cr_b rg m i k = true
              · rw [cr_p_t q hb]
                intro v hv
                rcases List.mem_append.mp hv with g | g
                · exact ik (by omega) v g
                · rw [List.mem_singleton] at g; omega
              · rw [cr_p_f q hb]; exact ik (by omega)
        exact key2 m (Nat.le_refl _)
    exact key m (Nat.le_refl _)
  · rw [cr_l_0 (by omega)]
    intro v hv; exact absurd hv (List.not_mem_nil)
/-- a simple route -/
def rs (rg : Nat → ge_P) (m : Nat) : Prop := 3 ≤ m ∧ ∀ i k, i < k → k < m → rg i ≠ rg k ∧ ¬ cr_b rg m i k = true
theorem cr_nil {rg : Nat → ge_P} {m : Nat} (h3 : 3 ≤ m) : cr_l rg m = [] ↔ ∀ i k, i < k → k < m → ¬ cr_b rg m i k = true := by
  constructor
  · intro h i k h1 h2 hb
    obtain ⟨r, hr⟩ := cr_pre (rg := rg) (i := i) (k := k + 1) h3 (by omega) (by omega)
    rw [h, cr_p_t h1 hb] at hr
    simp at hr
  · intro h
    rw [cr_l_3 h3]
    have key : ∀ i, i ≤ m → fo (cr_o rg m) [] 0 i = [] := by
      intro i
      induction i with
      | zero => intro _; rfl
      | succ i ih =>
        intro hi
        rw [← cr_p_m]
        have key2 : ∀ k, k ≤ m → cr_p rg m i k = [] := by
          intro k
          induction k with
          | zero => intro _; rw [cr_p_0 rg m (by omega)]; exact ih (by omega)
          | succ k ik =>
            intro hk
            rcases (show k ≤ i ∨ i < k by omega) with q | q
            · rw [cr_p_0 rg m (by omega)]; exact ih (by omega)
            · rw [cr_p_f q (h i k q (by omega))]; exact ik (by omega)
        exact key2 m (Nat.le_refl _)
    exact key m (Nat.le_refl _)
/-- the sum round -/
def ro (rg : Nat → ge_P) (m : Nat) : Int := su (fun i => ge_r (rg i) (rg (nx m i))) 0 m
/-! cutting off ears; L: the places that are left -/
def bx (m i : Nat) : Nat := if 0 < i then i - 1 else m - 1
def tr_x (s : Int) (a p b q : ge_P) : Prop := 0 ≤ s * ge_x a p q ∧ 0 ≤ s * ge_x p b q ∧ 0 ≤ s * ge_x b a q
/-- is the i-th of those left an ear -/
def tr_e (rg : Nat → ge_P) (s : Int) (L : List Nat) (i : Nat) : Prop := 0 < s * ge_x (rg (L.getD (bx L.length i) 0)) (rg (L.getD i 0)) (rg (L.getD (nx L.length i) 0)) ∧ ∀ k, k < L.length → k ≠ bx L.length i → k ≠ i → k ≠ nx L.length i → ¬ tr_x s (rg (L.getD (bx L.length i) 0)) (rg (L.getD i 0)) (rg (L.getD (nx L.length i) 0)) (rg (L.getD k 0))
/-- the first ear -/
def tr_1 (rg : Nat → ge_P) (s : Int) (L : List Nat) (i : Nat) : Prop := i < L.length ∧ tr_e rg s L i ∧ ∀ j, j < i → ¬ tr_e rg s L j
def tr_c (L : List Nat) (i : Nat) : Int := 4096 * (L.getD (bx L.length i) 0 : Nat) + 64 * (L.getD i 0 : Nat) + (L.getD (nx L.length i) 0 : Nat)
/-- L has come out of all places by k cuts, with the triangles T -/
def tr_w (rg : Nat → ge_P) (s : Int) (m : Nat) : Nat → List Nat → List Int → Prop
  | 0, L, T => L = List.range m ∧ T = []
  | k + 1, L, T => ∃ (L' : List Nat) (T' : List Int) (i : Nat), tr_w rg s m k L' T' ∧ tr_1 rg s L' i ∧ L = L'.eraseIdx i ∧ T = T' ++ [tr_c L' i]
theorem tr_1_uniq {rg : Nat → ge_P} {s : Int} {L : List Nat} {i j : Nat} (h : tr_1 rg s L i) (h' : tr_1 rg s L j) : i = j := by
  rcases (show i < j ∨ j < i ∨ i = j by omega) with g | g | g
  · exact absurd h.2.1 (h'.2.2 i g)
  · exact absurd h'.2.1 (h.2.2 j g)
  · exact g
theorem tr_w_uniq {rg : Nat → ge_P} {s : Int} {m : Nat} : ∀ (k : Nat) (L L' : List Nat) (T T' : List Int), tr_w rg s m k L T → tr_w rg s m k L' T' → L = L' ∧ T = T' := by
  intro k
  induction k with
  | zero =>
    intro L L' T T' h h'
    exact ⟨h.1.trans h'.1.symm, h.2.trans h'.2.symm⟩
  | succ k ih =>
    intro L L' T T' h h'
    obtain ⟨L1, T1, i1, a1, b1, c1, d1⟩ := h
    obtain ⟨L2, T2, i2, a2, b2, c2, d2⟩ := h'
    obtain ⟨rfl, rfl⟩ := ih L1 L2 T1 T2 a1 a2
    obtain rfl := tr_1_uniq b1 b2
    exact ⟨c1.trans c2.symm, d1.trans d2.symm⟩
def tr_s (rg : Nat → ge_P) (m : Nat) : Int := if 0 < ro rg m then 1 else -1
