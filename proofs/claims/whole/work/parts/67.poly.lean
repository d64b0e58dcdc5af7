/-! a route as a polygon -/
def pz (P : List ge_P) (i : Nat) : ge_P := P.getD i (0, 0)
theorem ge_E_idx : ∀ (l : List ge_P) (e : ge_P × ge_P), e ∈ ge_E l ↔ ∃ i, i + 1 < l.length ∧ e = (pz l i, pz l (i + 1))
  | [], e => by
    constructor
    · intro h; simp [ge_E] at h
    · rintro ⟨i, h, -⟩; simp at h
  | [a], e => by
    constructor
    · intro h; simp [ge_E] at h
    · rintro ⟨i, h, -⟩; simp at h
  | a :: b :: t, e => by
    have e1 : ge_E (a :: b :: t) = (a, b) :: ge_E (b :: t) := rfl
    have ih := ge_E_idx (b :: t) e
    rw [e1, List.mem_cons, ih]
    constructor
    · rintro (h | ⟨i, h, he⟩)
      · exact ⟨0, by simp, h⟩
      · exact ⟨i + 1, by simp at h ⊢; omega, he⟩
    · rintro ⟨i, h, he⟩
      cases i with
      | zero => exact .inl he
      | succ i => exact .inr ⟨i, by simp at h ⊢; omega, he⟩
theorem pz_cl {P : List ge_P} {i : Nat} (h : i < P.length) : pz (ge_cl P) i = pz P i ∧ pz (ge_cl P) (i + 1) = pz P (nx P.length i) := by
  cases P with
  | nil => simp at h
  | cons p l =>
    have e : ge_cl (p :: l) = (p :: l) ++ [p] := rfl
    have h1 : pz (ge_cl (p :: l)) i = pz (p :: l) i := by
      rw [e]
      unfold pz
      rw [List.getD_eq_getElem?_getD, List.getD_eq_getElem?_getD, List.getElem?_append_left h]
    refine ⟨h1, ?_⟩
    by_cases h2 : i + 1 < (p :: l).length
    · rw [show nx (p :: l).length i = i + 1 from if_pos h2, e]
      unfold pz
      rw [List.getD_eq_getElem?_getD, List.getD_eq_getElem?_getD, List.getElem?_append_left h2]
    · rw [show nx (p :: l).length i = 0 from if_neg h2, e]
      have h3 : i + 1 = (p :: l).length := by omega
      unfold pz
      rw [List.getD_eq_getElem?_getD, h3, List.getElem?_append_right (Nat.le_refl _)]
      simp
theorem ge_Ed_idx (P : List ge_P) (e : ge_P × ge_P) : e ∈ ge_Ed P ↔ ∃ i, i < P.length ∧ e = (pz P i, pz P (nx P.length i)) := by
  show e ∈ ge_E (ge_cl P) ↔ _
  rw [ge_E_idx]
  have hl : 0 < P.length → (ge_cl P).length = P.length + 1 := by
    intro h
    cases P with
    | nil => simp at h
    | cons p l => simp [ge_cl]
  constructor
  · rintro ⟨i, h, he⟩
    have hp : 0 < P.length := by
      cases P with
      | nil => simp [ge_cl] at h
      | cons p l => simp
    have hi : i < P.length := by rw [hl hp] at h; omega
    have := pz_cl hi
    exact ⟨i, hi, by rw [he, this.1, this.2]⟩
  · rintro ⟨i, hi, he⟩
    have := pz_cl hi
    exact ⟨i, by rw [hl (by omega)]; omega, by rw [he, this.1, this.2]⟩
theorem su_first (g : Nat → Int) (e : Nat) : su g 0 (e + 1) = g 0 + su (fun i => g (i + 1)) 0 e := by
  induction e with
  | zero =>
    rw [su_s (Nat.le_refl 0), su_0 (Nat.le_refl 0), su_0 (Nat.le_refl 0)]
    omega
  | succ e ih =>
    rw [su_s (Nat.zero_le (e + 1)), ih, su_s (Nat.zero_le e)]
    omega
theorem ge_C_idx (x : ge_P) : ∀ (l : List ge_P) (a : ge_P), ge_C x (a :: l) = su (fun i => ge_w x (pz (a :: l) i) (pz (a :: l) (i + 1))) 0 l.length
  | [], a => rfl
  | b :: t, a => by
    have e1 : ge_C x (a :: b :: t) = ge_w x a b + ge_C x (b :: t) := rfl
    rw [e1, ge_C_idx x t b, List.length_cons, su_first]
    rfl
theorem ge_RC_idx : ∀ (l : List ge_P) (a : ge_P), ge_RC (a :: l) = su (fun i => ge_r (pz (a :: l) i) (pz (a :: l) (i + 1))) 0 l.length
  | [], a => rfl
  | b :: t, a => by
    have e1 : ge_RC (a :: b :: t) = ge_r a b + ge_RC (b :: t) := rfl
    rw [e1, ge_RC_idx t b, List.length_cons, su_first]
    rfl
theorem ge_W_idx (x : ge_P) (P : List ge_P) : ge_W x P = su (fun i => ge_w x (pz P i) (pz P (nx P.length i))) 0 P.length := by
  cases P with
  | nil => rfl
  | cons p l =>
    have e : ge_W x (p :: l) = ge_C x (p :: (l ++ [p])) := rfl
    rw [e, ge_C_idx]
    have el : (l ++ [p]).length = (p :: l).length := by simp
    rw [el]
    refine su_congr (fun j _ hj => ?_)
    have := pz_cl (P := p :: l) hj
    have e2 : ge_cl (p :: l) = p :: (l ++ [p]) := rfl
    rw [e2] at this
    rw [this.1, this.2]
theorem ge_R_idx (P : List ge_P) : ge_R P = su (fun i => ge_r (pz P i) (pz P (nx P.length i))) 0 P.length := by
  cases P with
  | nil => rfl
  | cons p l =>
    have e : ge_R (p :: l) = ge_RC (p :: (l ++ [p])) := rfl
    rw [e, ge_RC_idx]
    have el : (l ++ [p]).length = (p :: l).length := by simp
    rw [el]
    refine su_congr (fun j _ hj => ?_)
    have := pz_cl (P := p :: l) hj
    have e2 : ge_cl (p :: l) = p :: (l ++ [p]) := rfl
    rw [e2] at this
    rw [this.1, this.2]
/-- the polygon of a route -/
def rl (rg : Nat → ge_P) (m : Nat) : List ge_P := (List.range m).map rg
theorem rl_len (rg : Nat → ge_P) (m : Nat) : (rl rg m).length = m := by simp [rl]
theorem rl_pz {rg : Nat → ge_P} {m i : Nat} (h : i < m) : pz (rl rg m) i = rg i := by
  unfold pz rl
  rw [List.getD_eq_getElem?_getD, List.getElem?_map, List.getElem?_range h]
  rfl
theorem rl_R (rg : Nat → ge_P) (m : Nat) : ge_R (rl rg m) = ro rg m := by
  rw [ge_R_idx, rl_len]
  refine su_congr (fun j _ hj => ?_)
  rw [rl_pz hj, rl_pz (nx_lt hj)]
theorem rl_W (x : ge_P) (rg : Nat → ge_P) (m : Nat) : ge_W x (rl rg m) = su (fun i => ge_w x (rg i) (rg (nx m i))) 0 m := by
  rw [ge_W_idx, rl_len]
  refine su_congr (fun j _ hj => ?_)
  rw [rl_pz hj, rl_pz (nx_lt hj)]
theorem rl_Ed {rg : Nat → ge_P} {m : Nat} {e : ge_P × ge_P} : e ∈ ge_Ed (rl rg m) ↔ ∃ i, i < m ∧ e = (rg i, rg (nx m i)) := by
  rw [ge_Ed_idx, rl_len]
  constructor
  · rintro ⟨i, hi, he⟩
    exact ⟨i, hi, by rw [he, rl_pz hi, rl_pz (nx_lt hi)]⟩
  · rintro ⟨i, hi, he⟩
    exact ⟨i, hi, by rw [he, rl_pz hi, rl_pz (nx_lt hi)]⟩
/-- two sides behind each other -/
theorem ok_adj {a b d : ge_P} (hab : a ≠ b) (hbd : d ≠ b) (hn : ¬ ge_fb a b d) : ge_ok (a, b) (b, d) := by
  intro i j k l hw
  obtain ⟨i0, j0, k0, l0, hp, hs, hx, hy⟩ := hw
  have i0 : 0 ≤ i := i0
  have hx : i * a.1 + j * b.1 = k * b.1 + l * d.1 := hx
  have hy : i * a.2 + j * b.2 = k * b.2 + l * d.2 := hy
  left
  have ux : i * (a.1 - b.1) = l * (d.1 - b.1) := by grind
  have uy : i * (a.2 - b.2) = l * (d.2 - b.2) := by grind
  have hi : i = 0 := by
    apply Classical.byContradiction
    intro g
    have gi : 0 < i := by omega
    apply hn
    apply (ge_fold_iff a b d).mp
    have e1 : i * ge_x b a d = 0 := by unfold ge_x; grind
    have e2 : l * ge_dot b a d = i * hu_d b a := by unfold ge_dot hu_d; grind
    have e3 := hu_d_pos (Ne.symm hab)
    have e4 := Int.mul_pos gi e3
    refine ⟨(Int.mul_eq_zero.mp e1).elim (fun q => absurd q g) id, ?_⟩
    apply Classical.byContradiction
    intro q
    have := Int.mul_nonneg l0 (show 0 ≤ - ge_dot b a d by omega)
    have e5 : l * (- ge_dot b a d) = - (l * ge_dot b a d) := by grind
    omega
  subst hi
  refine ⟨rfl, ?_, rfl⟩
  rw [Int.zero_mul] at ux uy
  apply Classical.byContradiction
  intro g
  exact hbd (Prod.ext (by
    rcases Int.mul_eq_zero.mp ux.symm with q | q
    · exact absurd q g
    · omega) (by
    rcases Int.mul_eq_zero.mp uy.symm with q | q
    · exact absurd q g
    · omega))
/-- a simple route is a simple polygon -/
theorem rs_S {rg : Nat → ge_P} {m : Nat} (h : rs rg m) : ge_S (rl rg m) := by
  obtain ⟨h3, hall⟩ := h
  have hne : ∀ i k, i < m → k < m → i ≠ k → rg i ≠ rg k := fun i k hi hk hik => by
    rcases (show i < k ∨ k < i by omega) with g | g
    · exact (hall i k g hk).1
    · exact (hall k i g hi).1.symm
  have nxne : ∀ i, i < m → nx m i ≠ i := fun i hi => by unfold nx; split <;> omega
  have key : ∀ i k, i < k → k < m → ge_ok (rg i, rg (nx m i)) (rg k, rg (nx m k)) := by
    intro i k hik hk
    have hi : i < m := by omega
    have hb := (hall i k hik hk).2
    unfold cr_b at hb
    by_cases h1 : nx m i = k
    · rw [if_pos h1, decide_eq_true_iff] at hb
      rw [h1]
      exact ok_adj (hne i k hi hk (by omega)) (hne _ k (nx_lt hk) hk (nxne k hk)) hb
    · rw [if_neg h1] at hb
      by_cases h2 : nx m k = i
      · rw [if_pos h2, decide_eq_true_iff] at hb
        rw [h2]
        exact ge_ok_symm (ok_adj (hne k i hk hi (by omega)) (hne _ i (nx_lt hi) hi (nxne i hi)) hb)
      · rw [if_neg h2, decide_eq_true_iff] at hb
        intro a b c d hw
        exact absurd (ge_meet_sh ⟨a, b, c, d, hw⟩) hb
  refine ⟨?_, by rw [rl_len]; exact h3, ?_⟩
  · unfold rl List.Nodup
    rw [List.pairwise_map]
    exact List.Pairwise.imp_of_mem (fun {a b} ha hb hab => hne a b (List.mem_range.mp ha) (List.mem_range.mp hb) (by omega)) (List.pairwise_lt_range)
  · intro e he f hf hef
    obtain ⟨i, hi, rfl⟩ := rl_Ed.mp he
    obtain ⟨k, hk, rfl⟩ := rl_Ed.mp hf
    rcases (show i < k ∨ k < i ∨ i = k by omega) with g | g | g
    · exact key i k g hk
    · exact ge_ok_symm (key k i g hi)
    · subst g; exact absurd rfl hef
/-! which places lie within -/
theorem meet_on {a b x : ge_P} (h : ge_meet a b x x) : ge_on a b x := by
  obtain ⟨i, j, k, l, i0, j0, k0, l0, hp, hs, hx, hy⟩ := h
  refine ge_wt_on (f := x) (i := i) (j := j) (k := k + l) (l := 0) ⟨i0, j0, by omega, by omega, hp, by omega, ?_, ?_⟩ rfl
  · rw [hx]; grind
  · rw [hy]; grind
def i_t (x p : ge_P) : Int := if x.2 < p.2 then 1 else 0
def i_s (x a b : ge_P) : Int := if a.2 ≤ x.2 ∧ x.2 < b.2 ∧ 0 < ge_x a b x then 1 else if b.2 ≤ x.2 ∧ x.2 < a.2 ∧ ge_x a b x < 0 then -1 else 0
theorem i_on {a b x : ge_P} (h : ge_x a b x = 0) (hy : (a.2 ≤ x.2 ∧ x.2 < b.2) ∨ (b.2 ≤ x.2 ∧ x.2 < a.2)) : ge_on a b x := by
  refine ⟨h, ?_, by omega⟩
  rw [ge_am_mul]
  have hx : (b.1 - a.1) * (x.2 - a.2) = (b.2 - a.2) * (x.1 - a.1) := by unfold ge_x at h; omega
  have m2 := (ge_am_mul x.2 a.2 b.2).mp (by omega)
  have hs : 0 < (b.2 - a.2) * (b.2 - a.2) := (hu_sq (b.2 - a.2)).2 (by omega)
  have hs2 : 0 ≤ (b.1 - a.1) * (b.1 - a.1) := (hu_sq (b.1 - a.1)).1
  have key : ((b.2 - a.2) * (b.2 - a.2)) * ((a.1 - x.1) * (b.1 - x.1)) = ((b.1 - a.1) * (b.1 - a.1)) * ((a.2 - x.2) * (b.2 - x.2)) := by grind
  have h4 := Int.mul_nonneg hs2 (show 0 ≤ - ((a.2 - x.2) * (b.2 - x.2)) by omega)
  have e4 : ((b.1 - a.1) * (b.1 - a.1)) * (- ((a.2 - x.2) * (b.2 - x.2))) = - (((b.1 - a.1) * (b.1 - a.1)) * ((a.2 - x.2) * (b.2 - x.2))) := by grind
  apply Classical.byContradiction
  intro g
  have := Int.mul_pos hs (show 0 < (a.1 - x.1) * (b.1 - x.1) by omega)
  omega
theorem i_eq {a b x : ge_P} (hn : ¬ ge_on a b x) : i_t x b - i_t x a = ge_w x a b + i_s x a b := by
  have h0 : ge_x a b x = 0 → ¬ ((a.2 ≤ x.2 ∧ x.2 < b.2) ∨ (b.2 ≤ x.2 ∧ x.2 < a.2)) := fun g q => hn (i_on g q)
  unfold i_t ge_w i_s
  generalize ge_x a b x = t at *
  repeat' split
  all_goals omega
theorem i_tele (x : ge_P) (rg : Nat → ge_P) (m : Nat) : su (fun i => i_t x (rg (nx m i)) - i_t x (rg i)) 0 m = 0 := by
  rcases (show m = 0 ∨ ∃ e, m = e + 1 by
    cases m with
    | zero => exact .inl rfl
    | succ e => exact .inr ⟨e, rfl⟩) with rfl | ⟨e, rfl⟩
  · rfl
  · have key : ∀ k, k ≤ e → su (fun i => i_t x (rg (nx (e + 1) i)) - i_t x (rg i)) 0 k = i_t x (rg k) - i_t x (rg 0) := by
      intro k
      induction k with
      | zero => intro _; rw [su_0 (Nat.le_refl _)]; omega
      | succ k ih =>
        intro hk
        rw [su_s (Nat.zero_le k), ih (by omega), show nx (e + 1) k = k + 1 from if_pos (by omega)]
        omega
    rw [su_s (Nat.zero_le e), key e (Nat.le_refl _), show nx (e + 1) e = 0 from if_neg (by omega)]
    omega
theorem i_par {g h : Nat → Int} : ∀ e, (∀ j, j < e → (g j = 0 ∧ h j = 0) ∨ (g j = 1 ∧ (h j = 1 ∨ h j = -1))) → (su g 0 e - su h 0 e) % 2 = 0 := by
  intro e
  induction e with
  | zero => intro _; rfl
  | succ e ih =>
    intro hh
    have := ih (fun j hj => hh j (by omega))
    have he := hh e (by omega)
    rw [su_s (Nat.zero_le e), su_s (Nat.zero_le e)]
    omega
/-- how many sides are seen along the growing x -/
def i_n (x : ge_P) (rg : Nat → ge_P) (m k : Nat) : Int := su (fun i => if ge_see x (rg i) (rg (nx m i)) then 1 else 0) 0 k
/-- how often the route winds round -/
def i_w (x : ge_P) (rg : Nat → ge_P) (m k : Nat) : Int := su (fun i => ge_w x (rg i) (rg (nx m i))) 0 k
theorem i_same {rg : Nat → ge_P} {m : Nat} (h : rs rg m) {x : ge_P} (hn : ∀ i, i < m → ¬ ge_on (rg i) (rg (nx m i)) x) : (i_n x rg m m % 2 = 1 ∧ i_w x rg m m ≠ 0) ∨ (i_n x rg m m % 2 = 0 ∧ i_w x rg m m = 0) := by
  have hS := rs_S h
  obtain ⟨D, hD⟩ := ge_Sg_ex hS
  have hne := ge_Sg_ne hS hD
  have hoff : ge_off x (rl rg m) := by
    intro e he hm
    obtain ⟨i, hi, rfl⟩ := rl_Ed.mp he
    exact hn i hi (meet_on hm)
  have hB := ge_B _ _ (Nat.le_refl _) hS D hD x hoff
  rw [rl_W] at hB
  have hw : i_w x rg m m = su (fun i => ge_w x (rg i) (rg (nx m i))) 0 m := rfl
  rw [← hw] at hB
  have hsum : i_w x rg m m + su (fun i => i_s x (rg i) (rg (nx m i))) 0 m = 0 := by
    rw [hw, ← su_add, ← i_tele x rg m]
    exact su_congr (fun j _ hj => (i_eq (hn j hj)).symm)
  have hpar : (i_n x rg m m - su (fun i => i_s x (rg i) (rg (nx m i))) 0 m) % 2 = 0 := by
    refine i_par m (fun j hj => ?_)
    show ((if ge_see x (rg j) (rg (nx m j)) then (1 : Int) else 0) = 0 ∧ i_s x (rg j) (rg (nx m j)) = 0) ∨ ((if ge_see x (rg j) (rg (nx m j)) then (1 : Int) else 0) = 1 ∧ (i_s x (rg j) (rg (nx m j)) = 1 ∨ i_s x (rg j) (rg (nx m j)) = -1))
    unfold i_s
    by_cases h1 : (rg j).2 ≤ x.2 ∧ x.2 < (rg (nx m j)).2 ∧ 0 < ge_x (rg j) (rg (nx m j)) x
    · rw [if_pos h1, if_pos (.inl h1)]; exact .inr ⟨rfl, .inl rfl⟩
    · rw [if_neg h1]
      by_cases h2 : (rg (nx m j)).2 ≤ x.2 ∧ x.2 < (rg j).2 ∧ ge_x (rg j) (rg (nx m j)) x < 0
      · rw [if_pos h2, if_pos (.inr h2)]; exact .inr ⟨rfl, .inr rfl⟩
      · rw [if_neg h2, if_neg (fun g => g.elim h1 h2)]; exact .inl ⟨rfl, rfl⟩
  rcases (show 0 < D ∨ D < 0 by omega) with g | g
  · have := hB.1 g; omega
  · have := hB.2 g; omega
