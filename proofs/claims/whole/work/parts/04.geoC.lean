/-! the sense of a polygon: how it turns at its lowest corner -/
def ge_Sg (P : List ge_P) (D : Int) : Prop := ∃ (L1 L2 : List ge_P) (p b a : ge_P) (M : List ge_P), P = L1 ++ L2 ∧ L2 ++ L1 = p :: b :: M ++ [a] ∧ (∀ v ∈ b :: M ++ [a], ge_lt p v) ∧ D = ge_x a p b
theorem ge_lowest : ∀ l : List ge_P, l ≠ [] → ∃ p ∈ l, ∀ v ∈ l, v ≠ p → ge_lt p v
  | [], h => absurd rfl h
  | [a], _ => ⟨a, by simp, fun v hv hne => by simp at hv; exact absurd hv hne⟩
  | a :: b :: l, _ => by
    obtain ⟨p, hp, hm⟩ := ge_lowest (b :: l) (by simp)
    by_cases h : ge_lt a p
    · refine ⟨a, by simp, fun v hv hne => ?_⟩
      rcases List.mem_cons.mp hv with g | g
      · exact absurd g hne
      · by_cases hvp : v = p
        · subst hvp; exact h
        · have := hm v g hvp
          unfold ge_lt at *; omega
    · refine ⟨p, List.mem_cons_of_mem _ hp, fun v hv hne => ?_⟩
      rcases List.mem_cons.mp hv with g | g
      · subst g
        have : v.1 ≠ p.1 ∨ v.2 ≠ p.2 := by
          by_cases h1 : v.1 = p.1
          · exact .inr (fun h2 => hne (Prod.ext h1 h2))
          · exact .inl h1
        unfold ge_lt at *; omega
      · exact hm v g hne
theorem ge_form3 (L : List ge_P) (h : 3 ≤ L.length) : ∃ p b M a, L = p :: b :: M ++ [a] := by
  match L, h with
  | p :: b :: R, h =>
    rcases List.eq_nil_or_concat R with g | ⟨M, a, g⟩
    · subst g; simp at h
    · exact ⟨p, b, M, a, by rw [g]; simp⟩
theorem ge_Sg_ex {P : List ge_P} (h : ge_S P) : ∃ D, ge_Sg P D := by
  have hne : P ≠ [] := by intro g; have := h.2.1; rw [g] at this; simp at this
  obtain ⟨p, hp, hm⟩ := ge_lowest P hne
  obtain ⟨L1, L2, hL⟩ := List.append_of_mem hp
  obtain ⟨p', b, M, a, hf⟩ := ge_form3 (p :: L2 ++ L1) (by have := h.2.1; rw [hL] at this; simp at this ⊢; omega)
  have hpp : p' = p := by simp at hf; exact hf.1.symm
  subst hpp
  refine ⟨_, L1, p' :: L2, p', b, a, M, hL, hf, ?_, rfl⟩
  intro v hv
  have hn : (p' :: L2 ++ L1).Nodup := by have := h.1; rw [hL] at this; exact List.perm_append_comm.nodup_iff.mp this
  rw [hf] at hn
  have hvne : v ≠ p' := by rintro rfl; simp at hn hv; grind
  apply hm v _ hvne
  have : v ∈ p' :: L2 ++ L1 := by rw [hf]; simp at hv ⊢; grind
  rw [hL]
  simp at this ⊢; grind
/-- at its lowest corner it turns -/
theorem ge_turns {p b a : ge_P} {M : List ge_P} (hP : ge_S (p :: b :: M ++ [a])) (hlow : ∀ v ∈ b :: M ++ [a], ge_lt p v) : ge_x a p b ≠ 0 := by
  intro h0
  have hn := hP.1
  have hab : a ≠ b := by rintro rfl; simp at hn
  have la := hlow a (by simp)
  have lb := hlow b (by simp)
  have hEd := ge_Ed_cons p b a M
  have f1 : (a, p) ∈ ge_Ed (p :: b :: M ++ [a]) := by rw [hEd]; simp
  have f2 : (p, b) ∈ ge_Ed (p :: b :: M ++ [a]) := by rw [hEd]; simp
  have hap : a ≠ p := by rintro rfl; simp at hn
  have hbp : b ≠ p := by rintro rfl; simp at hn
  have one : ∀ i k l : Int, ge_wt a a p b i 0 k l → False := by
    intro i k l hw
    rcases ge_V hP (by simp) f2 hw with ⟨g, -⟩ | ⟨g, -⟩
    · exact hap g
    · exact hab g
  have two : ∀ i k l : Int, ge_wt b b a p i 0 k l → False := by
    intro i k l hw
    rcases ge_V hP (by simp) f1 hw with ⟨g, -⟩ | ⟨g, -⟩
    · exact hab g.symm
    · exact hbp g
  unfold ge_x at h0
  by_cases hz : p.2 < a.2
  · have hb2 : p.2 < b.2 := by
      rcases lb with g | g
      · exact g
      · exfalso
        have e1 : b.2 = p.2 := g.1.symm
        have := Int.mul_pos (show 0 < a.2 - p.2 by omega) (show 0 < b.1 - p.1 by omega)
        rw [e1] at h0
        grind
    rcases Int.le_total a.2 b.2 with g | g
    · exact one (b.2 - p.2) (b.2 - a.2) (a.2 - p.2) ⟨by omega, by omega, by omega, by omega, by omega, by omega, by grind, by grind⟩
    · exact two (a.2 - p.2) (b.2 - p.2) (a.2 - b.2) ⟨by omega, by omega, by omega, by omega, by omega, by omega, by grind, by grind⟩
  · have e1 : a.2 = p.2 := by rcases la with g | g <;> omega
    have ha1 : p.1 < a.1 := by rcases la with g | g <;> omega
    have e2 : b.2 = p.2 := by
      rcases lb with g | g
      · exfalso
        have := Int.mul_pos (show 0 < b.2 - p.2 by omega) (show 0 < a.1 - p.1 by omega)
        rw [e1] at h0
        grind
      · exact g.1.symm
    have hb1 : p.1 < b.1 := by rcases lb with g | g <;> omega
    rcases Int.le_total a.1 b.1 with g | g
    · exact one (b.1 - p.1) (b.1 - a.1) (a.1 - p.1) ⟨by omega, by omega, by omega, by omega, by omega, by omega, by grind, by grind⟩
    · exact two (a.1 - p.1) (b.1 - p.1) (a.1 - b.1) ⟨by omega, by omega, by omega, by omega, by omega, by omega, by grind, by grind⟩
theorem ge_Sg_ne {P : List ge_P} (h : ge_S P) {D : Int} (hD : ge_Sg P D) : D ≠ 0 := by
  obtain ⟨L1, L2, p, b, a, M, h1, h2, h3, h4⟩ := hD
  subst h1
  have := ge_S_rot h
  rw [h2] at this
  rw [h4]
  exact ge_turns this h3
theorem ge_Sg_sc {n : Int} (hn : 0 < n) {P : List ge_P} {D : Int} (h : ge_Sg P D) : ge_Sg (P.map (ge_sc n)) (n * n * D) := by
  obtain ⟨L1, L2, p, b, a, M, h1, h2, h3, h4⟩ := h
  refine ⟨L1.map (ge_sc n), L2.map (ge_sc n), ge_sc n p, ge_sc n b, ge_sc n a, M.map (ge_sc n), by rw [h1]; simp, by have := congrArg (List.map (ge_sc n)) h2; simpa using this, ?_, by rw [ge_x_sc, h4]⟩
  intro v hv
  have : v ∈ (b :: M ++ [a]).map (ge_sc n) := by simpa using hv
  obtain ⟨w, hw, rfl⟩ := List.mem_map.mp this
  have := h3 w hw
  unfold ge_lt ge_sc at *
  rcases this with g | g
  · left; exact (ge_sc_lt hn).1.mpr g
  · right; exact ⟨by rw [g.1], (ge_sc_lt hn).1.mpr g.2⟩
theorem ge_off_rot {x : ge_P} {L1 L2 : List ge_P} (h : ge_off x (L1 ++ L2)) : ge_off x (L2 ++ L1) := fun e he => h e ((ge_Ed_rot L1 L2 e).mpr he)
/-- a little aside: off a segment too -/
theorem ge_shift {x : ge_P} {P : List ge_P} (h : ge_off x P) {u w : ge_P} (huw : u ≠ w) : ∃ (n : Int) (y : ge_P), 0 < n ∧ ge_off y (P.map (ge_sc n)) ∧ ge_W y (P.map (ge_sc n)) = ge_W x P ∧ ¬ ge_meet (ge_sc n u) (ge_sc n w) y y := by
  by_cases hx : ge_meet u w x x
  · obtain ⟨n, hn, hN⟩ := ge_eps (m := x) (-(w.2 - u.2), w.1 - u.1) (ge_Ed P) h
    have hN := hN n (by omega)
    refine ⟨n, (n * x.1 + -(w.2 - u.2), n * x.2 + (w.1 - u.1)), hn, ?_, ?_, ?_⟩
    · intro e he hm
      rw [ge_Ed_map] at he
      obtain ⟨e0, he0, rfl⟩ := List.mem_map.mp he
      obtain ⟨i, j, k, l, hi, hj, hk, hl, h5, h6, h7, h8⟩ := hm
      exact hN e0 he0 ⟨i, j, 0, k + l, hi, hj, by omega, by omega, h5, by omega, by dsimp only at h7 ⊢; grind, by dsimp only at h8 ⊢; grind⟩
    · rw [← ge_W_sc hn x P]
      symm
      apply ge_J1
      intro e he
      rw [ge_Ed_map] at he
      obtain ⟨e0, he0, rfl⟩ := List.mem_map.mp he
      exact hN e0 he0
    · intro hm
      obtain ⟨i, j, k, l, hw⟩ := hm
      have hpos : 0 < k + l := by obtain ⟨-, -, -, -, h5, h6, -⟩ := hw; omega
      have a1 := ge_aff hw (ge_sc n u) (ge_sc n w)
      have z := ge_x_00 (ge_sc n u) (ge_sc n w)
      rw [z.1, z.2.1] at a1
      obtain ⟨i', j', k', l', hw'⟩ := hx
      have hpos' : 0 < k' + l' := by obtain ⟨-, -, -, -, h5, h6, -⟩ := hw'; omega
      have a2 := ge_aff hw' u w
      have z' := ge_x_00 u w
      rw [z'.1, z'.2.1] at a2
      have b2 : (k' + l') * ge_x u w x = 0 := by rw [Int.add_mul]; simpa using a2
      have b3 : ge_x u w x = 0 := by rcases Int.mul_eq_zero.mp b2 with g | g <;> omega
      have b1 : (k + l) * ge_x (ge_sc n u) (ge_sc n w) (n * x.1 + -(w.2 - u.2), n * x.2 + (w.1 - u.1)) = 0 := by rw [Int.add_mul]; simpa using a1
      have b4 : ge_x (ge_sc n u) (ge_sc n w) (n * x.1 + -(w.2 - u.2), n * x.2 + (w.1 - u.1)) = 0 := by rcases Int.mul_eq_zero.mp b1 with g | g <;> omega
      have b5 : ge_x (ge_sc n u) (ge_sc n w) (n * x.1 + -(w.2 - u.2), n * x.2 + (w.1 - u.1)) = n * n * ge_x u w x + n * ((w.1 - u.1) * (w.1 - u.1) + (w.2 - u.2) * (w.2 - u.2)) := by unfold ge_x ge_sc; grind
      rw [b3, b4] at b5
      have b6 : n * ((w.1 - u.1) * (w.1 - u.1) + (w.2 - u.2) * (w.2 - u.2)) = 0 := by omega
      have sq : ∀ t : Int, 0 ≤ t * t ∧ (t ≠ 0 → 0 < t * t) := fun t => by
        rcases (show 0 < t ∨ t = 0 ∨ 0 < -t by omega) with h | h | h
        · have := Int.mul_pos h h; exact ⟨by omega, fun _ => this⟩
        · subst h; simp
        · have := Int.mul_pos h h; have e : -t * -t = t * t := by grind
          rw [e] at this; exact ⟨by omega, fun _ => this⟩
      have c1 := sq (w.1 - u.1)
      have c2 := sq (w.2 - u.2)
      rcases Int.mul_eq_zero.mp b6 with g | g
      · omega
      · apply huw
        exact Prod.ext (by by_cases q : w.1 - u.1 = 0; · omega
                           · have := c1.2 q; omega) (by by_cases q : w.2 - u.2 = 0; · omega
                                                        · have := c2.2 q; omega)
  · have h1 : ∀ z : ge_P, ge_sc 1 z = z := fun z => by unfold ge_sc; simp
    have h2 : P.map (ge_sc 1) = P := by
      have : ge_sc 1 = id := funext h1
      rw [this]; simp
    exact ⟨1, x, by omega, by rw [h2]; exact h, by rw [h2], by rw [h1, h1]; exact hx⟩
/-- the farthest corner in the triangle, whichever way it turns -/
theorem ge_chordP {p b a : ge_P} {M : List ge_P} (hP : ge_S (p :: b :: M ++ [a])) (hD : 0 < ge_x a p b) (hv : ∃ v ∈ M, ge_in a p b v) : ∃ q ∈ M, ge_in a p b q ∧ 0 < ge_x a p q ∧ 0 < ge_x p b q ∧ ∀ e ∈ ge_Ed (p :: b :: M ++ [a]), ge_cf p q e := by
  obtain ⟨q, hq, hin, hmax⟩ := ge_max (ge_in a p b) (ge_x b a) M hv
  have hn := hP.1
  have hqP : q ∈ p :: b :: M ++ [a] := by simp [hq]
  have hqp : q ≠ p := by rintro rfl; simp at hn; grind
  have hqb : q ≠ b := by rintro rfl; simp at hn; grind
  have hqa : q ≠ a := by rintro rfl; simp at hn; grind
  obtain ⟨t1, t2, t3⟩ := id hin
  obtain ⟨s1, s2, s3⟩ := ge_bary a p b q
  have hEd := ge_Ed_cons p b a M
  refine ⟨q, hq, hin, ?_, ?_, fun e he => ge_chord hP hD hq hin hmax he⟩
  · rcases (show 0 < ge_x a p q ∨ ge_x a p q = 0 by omega) with h | y
    · exact h
    · exfalso
      have := ge_V hP hqP (e := (a, p)) (by rw [hEd]; simp) (i := ge_x a p b) (j := 0) (k := ge_x p b q) (l := ge_x b a q) ⟨by omega, by omega, by omega, by omega, by omega, by omega, by grind, by grind⟩
      rcases this with ⟨h, -⟩ | ⟨h, -⟩
      · exact hqa h
      · exact hqp h
  · rcases (show 0 < ge_x p b q ∨ ge_x p b q = 0 by omega) with h | y
    · exact h
    · exfalso
      have := ge_V hP hqP (e := (p, b)) (by rw [hEd]; simp) (i := ge_x a p b) (j := 0) (k := ge_x b a q) (l := ge_x a p q) ⟨by omega, by omega, by omega, by omega, by omega, by omega, by grind, by grind⟩
      rcases this with ⟨h, -⟩ | ⟨h, -⟩
      · exact hqp h
      · exact hqb h
/-- two numbers of one sign -/
def ge_ss (D E : Int) : Prop := (0 < D ∧ 0 < E) ∨ (D < 0 ∧ E < 0)
theorem ge_chordS {p b a : ge_P} {M : List ge_P} (hP : ge_S (p :: b :: M ++ [a])) (hv : ∃ v ∈ M, ge_inS a p b v) : ∃ q ∈ M, ge_inS a p b q ∧ ge_ss (ge_x a p b) (ge_x a p q) ∧ ge_ss (ge_x a p b) (ge_x p b q) ∧ ∀ e ∈ ge_Ed (p :: b :: M ++ [a]), ge_cf p q e := by
  obtain ⟨v, hvM, hvi⟩ := hv
  rcases hvi with ⟨hD, hvi⟩ | ⟨hD, hvi⟩
  · obtain ⟨q, hq, hin, h1, h2, h3⟩ := ge_chordP hP hD ⟨v, hvM, hvi⟩
    exact ⟨q, hq, .inl ⟨hD, hin⟩, .inl ⟨hD, h1⟩, .inl ⟨hD, h2⟩, h3⟩
  · have hP' := ge_S_m hP
    have e0 : (p :: b :: M ++ [a]).map ge_m = ge_m p :: ge_m b :: M.map ge_m ++ [ge_m a] := by simp
    rw [e0] at hP'
    obtain ⟨q', hq', hin, h1, h2, h3⟩ := ge_chordP hP' (by rw [ge_x_m]; omega) ⟨ge_m v, List.mem_map.mpr ⟨v, hvM, rfl⟩, ge_in_m.mpr hvi⟩
    obtain ⟨q, hq, rfl⟩ := List.mem_map.mp hq'
    rw [ge_x_m] at h1 h2
    refine ⟨q, hq, .inr ⟨hD, ge_in_m.mp hin⟩, .inr ⟨hD, by omega⟩, .inr ⟨hD, by omega⟩, fun e he => ge_cf_m (h3 _ ?_)⟩
    rw [← e0, ge_Ed_map]
    exact List.mem_map.mpr ⟨e, he, rfl⟩
/-- both parts beside a chord -/
theorem ge_S_parts {p b q a : ge_P} {M2 M1 : List ge_P} (hP : ge_S (p :: b :: (M2 ++ q :: M1) ++ [a])) (hc : ∀ e ∈ ge_Ed (p :: b :: (M2 ++ q :: M1) ++ [a]), ge_cf p q e) : ge_S (p :: b :: M2 ++ [q]) ∧ ge_S (p :: q :: M1 ++ [a]) := by
  have hn := hP.1
  have s2 : ∀ e ∈ ge_E (p :: (b :: M2) ++ [q]), e ∈ ge_Ed (p :: b :: (M2 ++ q :: M1) ++ [a]) := by
    intro e he
    have h := ge_E_app (p :: b :: M2) (M1 ++ [a, p]) q
    have e0 : ge_cl (p :: b :: (M2 ++ q :: M1) ++ [a]) = (p :: b :: M2) ++ q :: (M1 ++ [a, p]) := by simp [ge_cl]
    unfold ge_Ed
    rw [e0, h]
    exact List.mem_append_left _ he
  have s1 : ∀ e ∈ ge_E (q :: (M1 ++ [a]) ++ [p]), e ∈ ge_Ed (p :: b :: (M2 ++ q :: M1) ++ [a]) := by
    intro e he
    have h := ge_E_app (p :: b :: M2) (M1 ++ [a, p]) q
    have e0 : ge_cl (p :: b :: (M2 ++ q :: M1) ++ [a]) = (p :: b :: M2) ++ q :: (M1 ++ [a, p]) := by simp [ge_cl]
    unfold ge_Ed
    rw [e0, h]
    apply List.mem_append_right
    simpa using he
  constructor
  · exact ge_S_shut (b := p) (M := b :: M2) (a := q) (by simp at hn ⊢; grind) (by simp) (fun e he f hf hne => hP.2.2 e (s2 e he) f (s2 f hf) hne) (fun e he => ge_cf_swap (hc e (s2 e he)))
  · have h := ge_S_shut (b := q) (M := M1 ++ [a]) (a := p) (by simp at hn ⊢; grind) (by simp) (fun e he f hf hne => hP.2.2 e (s1 e he) f (s1 f hf) hne) (fun e he => hc e (s1 e he))
    have := ge_S_rot (l1 := q :: (M1 ++ [a])) (l2 := [p]) h
    simpa using this
theorem ge_TW_swap (x a p b : ge_P) : ge_TW x b p a = - ge_TW x a p b := by
  unfold ge_TW
  have := ge_w_swap x a p
  have := ge_w_swap x p b
  have := ge_w_swap x b a
  omega
theorem ge_triS {x a p b : ge_P} : (0 < ge_x a p b → ge_TW x a p b ≤ 0) ∧ (ge_x a p b < 0 → 0 ≤ ge_TW x a p b) := by
  constructor
  · intro h; exact (ge_tri h).2.2.2
  · intro h
    have e : ge_x b p a = - ge_x a p b := by unfold ge_x; grind
    have := (ge_tri (x := x) (a := b) (b := p) (c := a) (by omega)).2.2.2
    rw [ge_TW_swap] at this
    omega
def ge_AW (P : List ge_P) (D : Int) : Prop := ∀ x, ge_off x P → (0 < D → ge_W x P ≤ 0) ∧ (D < 0 → 0 ≤ ge_W x P)
theorem ge_off_sub {y : ge_P} {P Q : List ge_P} {u w : ge_P} (h : ge_off y P) (hm : ¬ ge_meet u w y y) (hs : ∀ e ∈ ge_Ed Q, e ∈ ge_Ed P ∨ e = (u, w) ∨ e = (w, u)) : ge_off y Q := by
  intro e he hmt
  rcases hs e he with g | g | g
  · exact h e g hmt
  · subst g; exact hm hmt
  · subst g; exact hm (ge_meet_swap hmt)
theorem ge_sc_mem_sub {n : Int} {P Q : List ge_P} {u w : ge_P} (hs : ∀ e ∈ ge_Ed Q, e ∈ ge_Ed P ∨ e = (u, w) ∨ e = (w, u)) : ∀ e ∈ ge_Ed (Q.map (ge_sc n)), e ∈ ge_Ed (P.map (ge_sc n)) ∨ e = (ge_sc n u, ge_sc n w) ∨ e = (ge_sc n w, ge_sc n u) := by
  intro e he
  rw [ge_Ed_map] at he
  obtain ⟨e0, he0, rfl⟩ := List.mem_map.mp he
  rcases hs e0 he0 with g | g | g
  · left; rw [ge_Ed_map]; exact List.mem_map.mpr ⟨e0, g, rfl⟩
  · subst g; exact .inr (.inl rfl)
  · subst g; exact .inr (.inr rfl)
/-- freeness of the way from an empty corner to the side that cuts it off -/
theorem ge_free2 {p b a : ge_P} {M : List ge_P} (hP : ge_S (p :: b :: M ++ [a])) (hM : M ≠ []) (hD : ge_x a p b ≠ 0) (hem : ∀ v ∈ M, ¬ ge_inS a p b v) : ∀ e ∈ ge_E (b :: M ++ [a]), ¬ ge_meet (ge_sc 2 e.1) (ge_sc 2 e.2) (ge_sc 2 p) (a.1 + b.1, a.2 + b.2) := by
  have pos : ∀ {p b a : ge_P} {M : List ge_P}, ge_S (p :: b :: M ++ [a]) → M ≠ [] → 0 < ge_x a p b → (∀ v ∈ M, ¬ ge_in a p b v) → ∀ e ∈ ge_E (b :: M ++ [a]), ¬ ge_meet (ge_sc 2 e.1) (ge_sc 2 e.2) (ge_sc 2 p) (a.1 + b.1, a.2 + b.2) := by
    intro p b a M hP hM hD hem e he hm
    obtain ⟨i, j, k, l, hi, hj, hk, hl, h5, h6, h7, h8⟩ := hm
    simp only [ge_sc] at h7 h8
    have q : ∀ u w : ge_P, 2 * (i * ge_x u w e.1 + j * ge_x u w e.2) = 2 * k * ge_x u w p + l * (ge_x u w a + ge_x u w b) := by
      intro u w
      have e0 : i = k + l - j := by omega
      subst e0
      unfold ge_x
      grind
    have q1 := q a p
    have q2 := q p b
    have q3 := q b a
    have z1 := ge_x_00 a p
    have z2 := ge_x_00 p b
    have z3 := ge_x_00 b a
    have d2 : ge_x p b a = ge_x a p b := (ge_x_rot a p b).symm
    have d3 : ge_x b a p = ge_x a p b := by rw [ge_x_rot, ge_x_rot]
    rw [z1.1, z1.2.1] at q1
    rw [z2.1, z2.2.1, d2] at q2
    rw [z3.1, z3.2.1, d3] at q3
    have m1 := Int.mul_nonneg hl (show 0 ≤ ge_x a p b by omega)
    have m2 := Int.mul_nonneg hk (show 0 ≤ ge_x a p b by omega)
    simp only [Int.mul_zero, Int.zero_add, Int.add_zero] at q1 q2 q3
    rw [Int.mul_assoc] at q3
    have f := ge_free hP hM hD hem he hi hj h5 (by omega) (by omega) (by omega)
    obtain ⟨f1, f2⟩ := f
    have k0 : k = 0 := by
      rcases (show k = 0 ∨ 0 < k by omega) with h | h
      · exact h
      · have := Int.mul_pos h hD; omega
    have l0 : 0 < l := by omega
    have := Int.mul_pos l0 hD
    omega
  rcases (show 0 < ge_x a p b ∨ ge_x a p b < 0 by omega) with h | h
  · exact pos hP hM h (fun v hv hi => hem v hv (.inl ⟨h, hi⟩))
  · intro e he hm
    have hP' := ge_S_m hP
    have e0 : (p :: b :: M ++ [a]).map ge_m = ge_m p :: ge_m b :: M.map ge_m ++ [ge_m a] := by simp
    rw [e0] at hP'
    have e1 : ge_m b :: M.map ge_m ++ [ge_m a] = (b :: M ++ [a]).map ge_m := by simp
    refine pos hP' (by simpa using hM) (by rw [ge_x_m]; omega) ?_ (ge_m e.1, ge_m e.2) (by rw [e1, ge_E_map]; exact List.mem_map.mpr ⟨e, he, rfl⟩) ?_
    · intro v hv hi
      obtain ⟨v0, hv0, rfl⟩ := List.mem_map.mp hv
      exact hem v0 hv0 (.inr ⟨h, ge_in_m.mp hi⟩)
    · obtain ⟨i, j, k, l, hi, hj, hk, hl, h5, h6, h7, h8⟩ := hm
      refine ⟨i, j, k, l, hi, hj, hk, hl, h5, h6, ?_, ?_⟩
      · simp only [ge_sc, ge_m] at h7 ⊢; grind
      · simp only [ge_sc, ge_m] at h8 ⊢; grind
/-- the sense stays where the lowest corner is cut off -/
theorem ge_sense_low {p b a : ge_P} {M : List ge_P} (hP : ge_S (p :: b :: M ++ [a])) (hM : M ≠ []) (hlow : ∀ v ∈ b :: M ++ [a], ge_lt p v) (hem : ∀ v ∈ M, ¬ ge_inS a p b v) {D' : Int} (hD' : ge_Sg (b :: M ++ [a]) D')
    (hA : ∀ n : Int, 0 < n → ge_AW ((b :: M ++ [a]).map (ge_sc n)) (n * n * D')) : ge_ss (ge_x a p b) D' := by
  have hD := ge_turns hP hlow
  have hS' := ge_S_cut hP hM hD hem
  have hD'ne := ge_Sg_ne hS' hD'
  obtain ⟨n, y, hn, hoff, h1, h2⟩ := ge_over hD (ge_free2 hP hM hD hem)
  have hW0 : ge_W p (b :: M ++ [a]) = 0 := ge_W_low hlow
  have := hA n hn y hoff
  have q := ge_sc_pos (a := D') hn
  rcases (show 0 < ge_x a p b ∨ ge_x a p b < 0 by omega) with h | h
  · have := h1 h
    left
    refine ⟨h, ?_⟩
    rcases (show 0 < D' ∨ D' < 0 by omega) with g | g
    · exact g
    · have := this; have := (hA n hn y hoff).2 (q.2.mpr g); omega
  · have := h2 h
    right
    refine ⟨h, ?_⟩
    rcases (show 0 < D' ∨ D' < 0 by omega) with g | g
    · have := (hA n hn y hoff).1 (q.1.mpr g); omega
    · exact g
theorem ge_A : ∀ (n : Nat) (P : List ge_P), P.length ≤ n → ge_S P → ∀ D, ge_Sg P D → ge_AW P D
  | 0, P, hl, hP, _, _ => by have := hP.2.1; omega
  | n + 1, P, hl, hP, D, hD => by
    obtain ⟨L1, L2, p, b, a, M, h1, h2, hlow, h4⟩ := id hD
    subst h1
    have hR := ge_S_rot hP
    rw [h2] at hR
    have hlen : (p :: b :: M ++ [a]).length ≤ n + 1 := by rw [← h2]; simp at hl ⊢; omega
    intro x hx
    have hx' := ge_off_rot hx
    rw [h2] at hx'
    rw [ge_W_rot, h2]
    have hDne := ge_turns hR hlow
    rw [← h4] at hDne
    by_cases hM : M = []
    · subst hM
      have e := ge_W_cut x p b a []
      have e2 : ge_W x (b :: [] ++ [a]) = 0 := by
        have := ge_w_swap x a b
        simp [ge_W, ge_cl, ge_C]; omega
      rw [e, e2, h4]
      have := ge_triS (x := x) (a := a) (p := p) (b := b)
      exact ⟨fun h => by have := this.1 h; omega, fun h => by have := this.2 h; omega⟩
    by_cases hem : ∀ v ∈ M, ¬ ge_inS a p b v
    · -- nothing in the corner's triangle
      have hS' := ge_S_cut hR hM (by omega) hem
      obtain ⟨D', hD'⟩ := ge_Sg_ex hS'
      have hl' : (b :: M ++ [a]).length ≤ n := by simp at hlen ⊢; omega
      have hA : ∀ m : Int, 0 < m → ge_AW ((b :: M ++ [a]).map (ge_sc m)) (m * m * D') := fun m hm => ge_A n _ (by simpa using hl') (ge_S_sc hm hS') _ (ge_Sg_sc hm hD')
      have hss := ge_sense_low hR hM hlow hem hD' hA
      rw [← h4] at hss
      have hab : a ≠ b := by have := hR.1; rintro rfl; simp at this
      obtain ⟨m, y, hm, hy, hWy, hny⟩ := ge_shift hx' (u := a) (w := b) hab
      rw [← hWy]
      have hsub : ∀ e ∈ ge_Ed (b :: M ++ [a]), e ∈ ge_Ed (p :: b :: M ++ [a]) ∨ e = (a, b) ∨ e = (b, a) := by
        intro e he
        rw [ge_Ed_line, List.mem_append, List.mem_singleton] at he
        rcases he with g | g
        · exact .inl (ge_S_mid hR g)
        · exact .inr (.inl g)
      have hoff := ge_off_sub hy hny (ge_sc_mem_sub hsub)
      have hI := hA m hm y hoff
      have e1 : (p :: b :: M ++ [a]).map (ge_sc m) = ge_sc m p :: ge_sc m b :: M.map (ge_sc m) ++ [ge_sc m a] := by simp
      have e2 : (b :: M ++ [a]).map (ge_sc m) = ge_sc m b :: M.map (ge_sc m) ++ [ge_sc m a] := by simp
      rw [e1, ge_W_cut, ← e2]
      have ht := ge_triS (x := y) (a := ge_sc m a) (p := ge_sc m p) (b := ge_sc m b)
      rw [ge_x_sc, (ge_sc_pos hm).1, (ge_sc_pos hm).2, ← h4] at ht
      rw [(ge_sc_pos hm).1, (ge_sc_pos hm).2] at hI
      rcases hss with ⟨g1, g2⟩ | ⟨g1, g2⟩
      · have i1 := hI.1 g2
        have i2 := ht.1 g1
        exact ⟨fun _ => by omega, fun _ => by omega⟩
      · have i1 := hI.2 g2
        have i2 := ht.2 g1
        exact ⟨fun _ => by omega, fun _ => by omega⟩
    · -- a chord
      have hv : ∃ v ∈ M, ge_inS a p b v := by
        simp only [Classical.not_forall, Classical.not_not] at hem
        obtain ⟨v, hv, h⟩ := hem
        exact ⟨v, hv, h⟩
      obtain ⟨q, hq, -, s1, s2, hc⟩ := ge_chordS hR hv
      obtain ⟨M2, M1, rfl⟩ := List.append_of_mem hq
      obtain ⟨hS2, hS1⟩ := ge_S_parts hR hc
      have hpq : p ≠ q := by have := hR.1; rintro rfl; simp at this
      obtain ⟨m, y, hm, hy, hWy, hny⟩ := ge_shift hx' (u := p) (w := q) hpq
      rw [← hWy]
      have sub2 : ∀ e ∈ ge_Ed (p :: b :: M2 ++ [q]), e ∈ ge_Ed (p :: b :: (M2 ++ q :: M1) ++ [a]) ∨ e = (p, q) ∨ e = (q, p) := by
        intro e he
        have h := ge_E_app (b :: M2) (M1 ++ [a]) q
        rcases ge_mem_mid he with g | g | g
        · left; rw [ge_Ed_cons]; simp [g]
        · left; rw [ge_Ed_cons]
          have e0 : b :: (M2 ++ q :: M1) ++ [a] = (b :: M2) ++ q :: (M1 ++ [a]) := by simp
          rw [e0, h]
          simp only [List.mem_cons, List.mem_append]
          exact .inr (.inl (.inl g))
        · exact .inr (.inr g)
      have sub1 : ∀ e ∈ ge_Ed (p :: q :: M1 ++ [a]), e ∈ ge_Ed (p :: b :: (M2 ++ q :: M1) ++ [a]) ∨ e = (p, q) ∨ e = (q, p) := by
        intro e he
        have h := ge_E_app (b :: M2) (M1 ++ [a]) q
        rcases ge_mem_mid he with g | g | g
        · exact .inr (.inl g)
        · left; rw [ge_Ed_cons]
          have e0 : b :: (M2 ++ q :: M1) ++ [a] = (b :: M2) ++ q :: (M1 ++ [a]) := by simp
          rw [e0, h]
          simp only [List.mem_cons, List.mem_append]
          exact .inr (.inl (.inr g))
        · left; rw [ge_Ed_cons]; simp [g]
      have low2 : ∀ v ∈ b :: M2 ++ [q], ge_lt p v := fun v hv => hlow v (by simp at hv ⊢; grind)
      have low1 : ∀ v ∈ q :: M1 ++ [a], ge_lt p v := fun v hv => hlow v (by simp at hv ⊢; grind)
      have g2 : ge_Sg (p :: b :: M2 ++ [q]) (ge_x p b q) := ⟨[], _, p, b, q, M2, rfl, by simp, low2, by rw [ge_x_rot q p b]⟩
      have g1 : ge_Sg (p :: q :: M1 ++ [a]) (ge_x a p q) := ⟨[], _, p, q, a, M1, rfl, by simp, low1, rfl⟩
      have i2 := ge_A n _ (by simp at hlen ⊢; omega) (ge_S_sc hm hS2) _ (ge_Sg_sc hm g2) y (ge_off_sub hy hny (ge_sc_mem_sub sub2))
      have i1 := ge_A n _ (by simp at hlen ⊢; omega) (ge_S_sc hm hS1) _ (ge_Sg_sc hm g1) y (ge_off_sub hy hny (ge_sc_mem_sub sub1))
      rw [(ge_sc_pos hm).1, (ge_sc_pos hm).2] at i1 i2
      have e1 : (p :: b :: (M2 ++ q :: M1) ++ [a]).map (ge_sc m) = ge_sc m p :: ge_sc m b :: (M2.map (ge_sc m) ++ ge_sc m q :: M1.map (ge_sc m)) ++ [ge_sc m a] := by simp
      have e2 : (p :: b :: M2 ++ [q]).map (ge_sc m) = ge_sc m p :: ge_sc m b :: M2.map (ge_sc m) ++ [ge_sc m q] := by simp
      have e3 : (p :: q :: M1 ++ [a]).map (ge_sc m) = ge_sc m p :: ge_sc m q :: M1.map (ge_sc m) ++ [ge_sc m a] := by simp
      rw [e1, ge_W_split, ← e2, ← e3]
      rw [← h4] at s1 s2
      rcases s1 with ⟨r1, r2⟩ | ⟨r1, r2⟩
      · have j1 := i1.1 r2
        have r3 : 0 < ge_x p b q := by rcases s2 with s | s <;> omega
        have j2 := i2.1 r3
        exact ⟨fun _ => by omega, fun _ => by omega⟩
      · have j1 := i1.2 r2
        have r3 : ge_x p b q < 0 := by rcases s2 with s | s <;> omega
        have j2 := i2.2 r3
        exact ⟨fun _ => by omega, fun _ => by omega⟩
/-! corners that can be cut off: ears -/
theorem ge_succ_uniq {P : List ge_P} (hP : ge_S P) {e f : ge_P × ge_P} (he : e ∈ ge_Ed P) (hf : f ∈ ge_Ed P) (h : e.1 = f.1) : e = f := by
  apply Classical.byContradiction
  intro hne
  rcases hP.2.2 e he f hf hne 1 0 1 0 ⟨by omega, by omega, by omega, by omega, by omega, by omega, by rw [h]; simp, by rw [h]; simp⟩ with g | g <;> omega
theorem ge_pred_uniq {P : List ge_P} (hP : ge_S P) {e f : ge_P × ge_P} (he : e ∈ ge_Ed P) (hf : f ∈ ge_Ed P) (h : e.2 = f.2) : e = f := by
  apply Classical.byContradiction
  intro hne
  rcases hP.2.2 e he f hf hne 0 1 0 1 ⟨by omega, by omega, by omega, by omega, by omega, by omega, by rw [h]; simp, by rw [h]; simp⟩ with g | g <;> omega
/-- read a polygon from an edge's end on -/
theorem ge_read {P : List ge_P} (hP : ge_S P) {a v b : ge_P} (h1 : (a, v) ∈ ge_Ed P) (h2 : (v, b) ∈ ge_Ed P) : ∃ (L1 L2 M : List ge_P), P = L1 ++ L2 ∧ L2 ++ L1 = v :: b :: M ++ [a] := by
  have hv : v ∈ P := (ge_Ed_mem h2).1
  obtain ⟨L1, L2, hL⟩ := List.append_of_mem hv
  obtain ⟨v', b', M, a', hf⟩ := ge_form3 (v :: L2 ++ L1) (by have := hP.2.1; rw [hL] at this; simp at this ⊢; omega)
  have hvv : v' = v := by simp at hf; exact hf.1.symm
  subst hvv
  have hmem : ∀ e ∈ ge_Ed (v' :: b' :: M ++ [a']), e ∈ ge_Ed P := by
    intro e he
    rw [← hf] at he
    rw [hL]
    exact (ge_Ed_rot L1 (v' :: L2) e).mpr he
  have e1 : (v', b) = (v', b') := ge_succ_uniq hP h2 (hmem _ (by rw [ge_Ed_cons]; simp)) rfl
  have e2 : (a, v') = (a', v') := ge_pred_uniq hP h1 (hmem _ (by rw [ge_Ed_cons]; simp)) rfl
  simp at e1 e2
  subst e1; subst e2
  exact ⟨L1, v' :: L2, M, hL, hf⟩
theorem ge_Sg_uniq {P : List ge_P} (hP : ge_S P) {D E : Int} (h1 : ge_Sg P D) (h2 : ge_Sg P E) : D = E := by
  obtain ⟨L1, L2, p, b, a, M, g1, g2, g3, g4⟩ := h1
  obtain ⟨L1', L2', p', b', a', M', g1', g2', g3', g4'⟩ := h2
  have m1 : ∀ e ∈ ge_Ed (p :: b :: M ++ [a]), e ∈ ge_Ed P := by
    intro e he; rw [← g2] at he; rw [g1]; exact (ge_Ed_rot L1 L2 e).mpr he
  have m2 : ∀ e ∈ ge_Ed (p' :: b' :: M' ++ [a']), e ∈ ge_Ed P := by
    intro e he; rw [← g2'] at he; rw [g1']; exact (ge_Ed_rot L1' L2' e).mpr he
  have v1 : ∀ v ∈ P, v = p ∨ ge_lt p v := by
    intro v hv
    have : v ∈ L2 ++ L1 := by rw [g1] at hv; simp at hv ⊢; grind
    rw [g2] at this
    rcases (show v = p ∨ v ∈ b :: M ++ [a] by simpa using this) with h | h
    · exact .inl h
    · exact .inr (g3 v h)
  have v2 : ∀ v ∈ P, v = p' ∨ ge_lt p' v := by
    intro v hv
    have : v ∈ L2' ++ L1' := by rw [g1'] at hv; simp at hv ⊢; grind
    rw [g2'] at this
    rcases (show v = p' ∨ v ∈ b' :: M' ++ [a'] by simpa using this) with h | h
    · exact .inl h
    · exact .inr (g3' v h)
  have hp : p = p' := by
    have a1 := v1 p' (ge_Ed_mem (m2 (p', b') (by rw [ge_Ed_cons]; simp))).1
    have a2 := v2 p (ge_Ed_mem (m1 (p, b) (by rw [ge_Ed_cons]; simp))).1
    rcases a1 with h | h
    · exact h.symm
    · rcases a2 with h' | h'
      · exact h'
      · unfold ge_lt at *; omega
  subst hp
  have e1 : (p, b) = (p, b') := ge_succ_uniq hP (m1 _ (by rw [ge_Ed_cons]; simp)) (m2 _ (by rw [ge_Ed_cons]; simp)) rfl
  have e2 : (a, p) = (a', p) := ge_pred_uniq hP (m1 _ (by rw [ge_Ed_cons]; simp)) (m2 _ (by rw [ge_Ed_cons]; simp)) rfl
  simp at e1 e2
  rw [g4, g4', e1, e2]
theorem ge_Sg_rot {L1 L2 : List ge_P} {D : Int} (hP : ge_S (L1 ++ L2)) (h : ge_Sg (L1 ++ L2) D) : ge_Sg (L2 ++ L1) D := by
  have hR := ge_S_rot hP
  obtain ⟨E, hE⟩ := ge_Sg_ex hR
  -- both read from the lowest corner
  obtain ⟨K1, K2, p, b, a, M, g1, g2, g3, g4⟩ := id h
  have hS := ge_S_rot (l1 := K1) (l2 := K2) (by rw [← g1]; exact hP)
  rw [g2] at hS
  have m1 : ∀ e ∈ ge_Ed (p :: b :: M ++ [a]), e ∈ ge_Ed (L2 ++ L1) := by
    intro e he; rw [← g2] at he
    exact (ge_Ed_rot L1 L2 e).mp (by rw [g1]; exact (ge_Ed_rot K1 K2 e).mpr he)
  obtain ⟨J1, J2, M', j1, j2⟩ := ge_read hR (m1 (a, p) (by rw [ge_Ed_cons]; simp)) (m1 (p, b) (by rw [ge_Ed_cons]; simp))
  refine ⟨J1, J2, p, b, a, M', j1, j2, ?_, g4⟩
  intro v hv
  have hne : v ≠ p := by
    have : (p :: b :: M' ++ [a]).Nodup := by rw [← j2]; have := hR.1; rw [j1] at this; exact List.perm_append_comm.nodup_iff.mp this
    rintro rfl; simp at this hv; grind
  have : v ∈ J2 ++ J1 := by rw [j2]; simp at hv ⊢; grind
  have : v ∈ L2 ++ L1 := by rw [j1]; simp at this ⊢; grind
  have : v ∈ L1 ++ L2 := by simp at this ⊢; grind
  rw [g1] at this
  have : v ∈ K2 ++ K1 := by simp at this ⊢; grind
  rw [g2] at this
  rcases (show v = p ∨ v ∈ b :: M ++ [a] by simpa using this) with h | h
  · exact absurd h hne
  · exact g3 v h
theorem ge_sense_bP {v b c a : ge_P} {M : List ge_P} (hP : ge_S (v :: b :: (c :: M) ++ [a])) (ht : 0 < ge_x a v b) (hc : ¬ ge_in a v b c) (h2 : 0 < ge_x v b c) (h3 : ge_x a b c ≠ 0) : 0 < ge_x a b c := by
  rcases (show 0 < ge_x a b c ∨ ge_x a b c < 0 by omega) with h | h
  · exact h
  · exfalso
    have hn := hP.1
    have f3 : 0 < ge_x b a c := by rw [ge_x_swap]; omega
    have f1 : ge_x a v c < 0 := by
      rcases Int.lt_or_le (ge_x a v c) 0 with g | g
      · exact g
      · exact absurd ⟨g, by omega, by omega⟩ hc
    have z1 := ge_x_00 a v
    have z2 := ge_x_00 v b
    have z3 := ge_x_00 b a
    have hw := ge_X1 (a := a) (p := v) (b := b) (c := c) (d := b) (k := 0) (l := 1) ht (by omega) (by omega) (by omega) (by omega) (by omega) (by omega) f1 (by omega) (by rw [z2.2.1]; have := Int.mul_pos ht h2; simp; omega)
    have hEd := ge_Ed_cons v b a (c :: M)
    have m1 : (a, v) ∈ ge_Ed (v :: b :: (c :: M) ++ [a]) := by rw [hEd]; simp
    have m2 : (b, c) ∈ ge_Ed (v :: b :: (c :: M) ++ [a]) := by rw [hEd]; simp [ge_E]
    have hne : (a, v) ≠ (b, c) := by intro h; simp at h hn; grind
    have hp := Int.mul_pos ht f3
    rcases ge_swap_in hP m1 m2 hne (c := c) (d := b) (.inr ⟨rfl, rfl⟩) hw with ⟨-, g⟩ | ⟨g, -⟩
    · simp at hn; grind
    · rw [z3.1] at g; simp at g; omega
theorem ge_sense_aP {v b z a : ge_P} {M : List ge_P} (hP : ge_S (v :: b :: (M ++ [z]) ++ [a])) (ht : 0 < ge_x a v b) (hz : ¬ ge_in a v b z) (h2 : 0 < ge_x z a v) (h3 : ge_x z a b ≠ 0) : 0 < ge_x z a b := by
  rcases (show 0 < ge_x z a b ∨ ge_x z a b < 0 by omega) with h | h
  · exact h
  · exfalso
    have hn := hP.1
    have r1 : ge_x a v z = ge_x z a v := (ge_x_rot z a v).symm
    have r2 : ge_x z a b = ge_x a b z := ge_x_rot z a b
    have f3 : 0 < ge_x b a z := by rw [ge_x_swap]; omega
    have f2 : ge_x v b z < 0 := by
      rcases Int.lt_or_le (ge_x v b z) 0 with g | g
      · exact g
      · exact absurd ⟨by omega, g, by omega⟩ hz
    have z1 := ge_x_00 a v
    have z2 := ge_x_00 v b
    have z3 := ge_x_00 b a
    have d2 : ge_x v b a = ge_x a v b := (ge_x_rot a v b).symm
    have hw := ge_X2 (a := a) (p := v) (b := b) (c := z) (d := a) (k := 0) (l := 1) ht (by omega) (by omega) (by omega) (by omega) (by omega) (by omega) f2 (by omega) (by rw [z1.1, d2, r1]; have := Int.mul_pos ht h2; simp; omega)
    have hEd := ge_Ed_cons v b a (M ++ [z])
    have m1 : (v, b) ∈ ge_Ed (v :: b :: (M ++ [z]) ++ [a]) := by rw [hEd]; simp
    have m2 : (z, a) ∈ ge_Ed (v :: b :: (M ++ [z]) ++ [a]) := by
      have := ge_E_app (b :: M) [a] z
      have e0 : b :: (M ++ [z]) ++ [a] = (b :: M) ++ z :: [a] := by simp
      rw [hEd, e0, this]; simp [ge_E]
    have hne : (v, b) ≠ (z, a) := by intro h; simp at h hn; grind
    have hp := Int.mul_pos ht f3
    rcases ge_swap_in hP m1 m2 hne (c := z) (d := a) (.inl ⟨rfl, rfl⟩) (ge_wt_swap hw) with ⟨g, -⟩ | ⟨-, g⟩
    · rw [z3.2.1, d2] at g; simp at g; omega
    · simp at hn; grind
theorem ge_sense_b {v b c a : ge_P} {M : List ge_P} (hP : ge_S (v :: b :: (c :: M) ++ [a])) (hc : ¬ ge_inS a v b c) (h2 : ge_ss (ge_x a v b) (ge_x v b c)) (h3 : ge_x a b c ≠ 0) : ge_ss (ge_x a v b) (ge_x a b c) := by
  rcases h2 with ⟨h1, h2⟩ | ⟨h1, h2⟩
  · exact .inl ⟨h1, ge_sense_bP hP h1 (fun h => hc (.inl ⟨h1, h⟩)) h2 h3⟩
  · right
    refine ⟨h1, ?_⟩
    have hP' := ge_S_m hP
    have e0 : (v :: b :: (c :: M) ++ [a]).map ge_m = ge_m v :: ge_m b :: (ge_m c :: M.map ge_m) ++ [ge_m a] := by simp
    rw [e0] at hP'
    have := ge_sense_bP hP' (by rw [ge_x_m]; omega) (fun h => hc (.inr ⟨h1, ge_in_m.mp h⟩)) (by rw [ge_x_m]; omega) (by rw [ge_x_m]; omega)
    rw [ge_x_m] at this
    omega
theorem ge_sense_a {v b z a : ge_P} {M : List ge_P} (hP : ge_S (v :: b :: (M ++ [z]) ++ [a])) (hz : ¬ ge_inS a v b z) (h2 : ge_ss (ge_x a v b) (ge_x z a v)) (h3 : ge_x z a b ≠ 0) : ge_ss (ge_x a v b) (ge_x z a b) := by
  rcases h2 with ⟨h1, h2⟩ | ⟨h1, h2⟩
  · exact .inl ⟨h1, ge_sense_aP hP h1 (fun h => hz (.inl ⟨h1, h⟩)) h2 h3⟩
  · right
    refine ⟨h1, ?_⟩
    have hP' := ge_S_m hP
    have e0 : (v :: b :: (M ++ [z]) ++ [a]).map ge_m = ge_m v :: ge_m b :: (M.map ge_m ++ [ge_m z]) ++ [ge_m a] := by simp
    rw [e0] at hP'
    have := ge_sense_aP hP' (by rw [ge_x_m]; omega) (fun h => hz (.inr ⟨h1, ge_in_m.mp h⟩)) (by rw [ge_x_m]; omega) (by rw [ge_x_m]; omega)
    rw [ge_x_m] at this
    omega
theorem ge_ss_symm {D E : Int} (h : ge_ss D E) : ge_ss E D := by unfold ge_ss at *; omega
theorem ge_ss_trans {D E F : Int} (h : ge_ss D E) (g : ge_ss E F) : ge_ss D F := by unfold ge_ss at *; omega
/-- cutting an ear off keeps the sense -/
theorem ge_sense {v b a : ge_P} {M : List ge_P} (hP : ge_S (v :: b :: M ++ [a])) (hM : M ≠ []) {D : Int} (hD : ge_Sg (v :: b :: M ++ [a]) D) (ht : ge_ss D (ge_x a v b)) (hem : ∀ u ∈ M, ¬ ge_inS a v b u) {D' : Int} (hD' : ge_Sg (b :: M ++ [a]) D') : ge_ss D D' := by
  have htne : ge_x a v b ≠ 0 := by unfold ge_ss at ht; omega
  have hS' := ge_S_cut hP hM htne hem
  have hn := hP.1
  obtain ⟨L1, L2, p, b0, a0, M0, g1, g2, g3, g4⟩ := id hD
  have hR := ge_S_rot (l1 := L1) (l2 := L2) (by rw [← g1]; exact hP)
  rw [g2] at hR
  have m1 : ∀ e ∈ ge_Ed (p :: b0 :: M0 ++ [a0]), e ∈ ge_Ed (v :: b :: M ++ [a]) := by
    intro e he; rw [← g2] at he; rw [g1]; exact (ge_Ed_rot L1 L2 e).mpr he
  have e1 := m1 (p, b0) (by rw [ge_Ed_cons]; simp)
  have e2 := m1 (a0, p) (by rw [ge_Ed_cons]; simp)
  have low : ∀ w ∈ v :: b :: M ++ [a], w ≠ p → ge_lt p w := by
    intro w hw hne
    have : w ∈ L2 ++ L1 := by rw [g1] at hw; simp at hw ⊢; grind
    rw [g2] at this
    rcases (show w = p ∨ w ∈ b0 :: M0 ++ [a0] by simpa using this) with h | h
    · exact absurd h hne
    · exact g3 w h
  have hEd := ge_Ed_cons v b a M
  have hpP := (ge_Ed_mem e1).1
  have hcase : p = v ∨ p = b ∨ p = a ∨ p ∈ M := by simp at hpP; grind
  by_cases hpv : p = v
  · subst hpv
    have q1 : (p, b0) = (p, b) := ge_succ_uniq hP e1 (by rw [hEd]; simp) rfl
    have q2 : (a0, p) = (a, p) := ge_pred_uniq hP e2 (by rw [hEd]; simp) rfl
    simp at q1 q2
    subst q1; subst q2
    have hl : ∀ w ∈ b0 :: M ++ [a0], ge_lt p w := by
      intro w hw
      have hne : w ≠ p := by rintro rfl; simp at hw hn; grind
      exact low w (by simp at hw ⊢; grind) hne
    have := ge_sense_low hP hM hl hem hD' (fun n hn => ge_A _ _ (Nat.le_refl _) (ge_S_sc hn hS') _ (ge_Sg_sc hn hD'))
    exact ge_ss_trans ht this
  by_cases hpb : p = b
  · subst hpb
    cases M with
    | nil => exact absurd rfl hM
    | cons c M =>
      have q1 : (p, b0) = (p, c) := ge_succ_uniq hP e1 (by rw [hEd]; simp [ge_E]) rfl
      have q2 : (a0, p) = (v, p) := ge_pred_uniq hP e2 (by rw [hEd]; simp) rfl
      simp at q1 q2
      subst q1; subst q2
      have hl : ∀ w ∈ b0 :: M ++ [a], ge_lt p w := by
        intro w hw
        have hne : w ≠ p := by rintro rfl; simp at hw hn; grind
        exact low w (by simp at hw ⊢; grind) hne
      have hSg : ge_Sg (p :: (b0 :: M) ++ [a]) (ge_x a p b0) := ⟨[], _, p, b0, a, M, rfl, by simp, hl, rfl⟩
      have hE := ge_Sg_uniq hS' hD' hSg
      have hne := ge_Sg_ne hS' hSg
      have := ge_sense_b hP (hem b0 (by simp)) (by rw [← g4]; exact ge_ss_symm ht) hne
      rw [hE]
      exact ge_ss_trans ht this
  by_cases hpa : p = a
  · subst hpa
    rcases List.eq_nil_or_concat M with h | ⟨M', z, h⟩
    · exact absurd h hM
    · rw [List.concat_eq_append] at h
      subst h
      have q1 : (p, b0) = (p, v) := ge_succ_uniq hP e1 (by rw [hEd]; simp) rfl
      have hz : (z, p) ∈ ge_Ed (v :: b :: (M' ++ [z]) ++ [p]) := by
        have := ge_E_app (b :: M') [p] z
        have e0 : b :: (M' ++ [z]) ++ [p] = (b :: M') ++ z :: [p] := by simp
        rw [hEd, e0, this]; simp [ge_E]
      have q2 : (a0, p) = (z, p) := ge_pred_uniq hP e2 hz rfl
      simp at q1 q2
      subst q1; subst q2
      have hl : ∀ w ∈ b :: M' ++ [a0], ge_lt p w := by
        intro w hw
        have hne : w ≠ p := by rintro rfl; simp at hw hn; grind
        exact low w (by simp at hw ⊢; grind) hne
      have hSg : ge_Sg (b :: (M' ++ [a0]) ++ [p]) (ge_x a0 p b) := ⟨b :: (M' ++ [a0]), [p], p, b, a0, M', rfl, by simp, hl, rfl⟩
      have hE := ge_Sg_uniq hS' hD' hSg
      have hne := ge_Sg_ne hS' hSg
      have := ge_sense_a hP (hem a0 (by simp)) (by rw [← g4]; exact ge_ss_symm ht) hne
      rw [hE]
      exact ge_ss_trans ht this
  · have f1 : (p, b0) ∈ ge_Ed (b :: M ++ [a]) := by
      rw [ge_Ed_line]
      rcases ge_mem_mid e1 with h | h | h
      · simp at h; exact absurd h.1 hpv
      · exact List.mem_append_left _ h
      · simp at h; exact absurd h.1 hpa
    have f2 : (a0, p) ∈ ge_Ed (b :: M ++ [a]) := by
      rw [ge_Ed_line]
      rcases ge_mem_mid e2 with h | h | h
      · simp at h; exact absurd h.2 hpb
      · exact List.mem_append_left _ h
      · simp at h; exact absurd h.2 hpv
    obtain ⟨J1, J2, M', j1, j2⟩ := ge_read hS' f2 f1
    have hSg : ge_Sg (b :: M ++ [a]) D := by
      refine ⟨J1, J2, p, b0, a0, M', j1, j2, ?_, g4⟩
      intro w hw
      have hne : w ≠ p := by
        have : (p :: b0 :: M' ++ [a0]).Nodup := by rw [← j2]; have := hS'.1; rw [j1] at this; exact List.perm_append_comm.nodup_iff.mp this
        rintro rfl; simp at this hw; grind
      have : w ∈ J2 ++ J1 := by rw [j2]; simp at hw ⊢; grind
      have : w ∈ b :: M ++ [a] := by rw [j1]; simp at this ⊢; grind
      exact low w (by simp at this ⊢; grind) hne
    rw [ge_Sg_uniq hS' hD' hSg]
    have := ge_Sg_ne hP hD
    unfold ge_ss; omega
/-- freeness, whichever way it turns -/
theorem ge_freeS {p b a : ge_P} {M : List ge_P} (hP : ge_S (p :: b :: M ++ [a])) (hM : M ≠ []) (hem : ∀ v ∈ M, ¬ ge_inS a p b v) {e : ge_P × ge_P} (he : e ∈ ge_E (b :: M ++ [a])) {k l : Int} (hk : 0 ≤ k) (hl : 0 ≤ l) (hkl : 0 < k + l)
    (h : (0 < ge_x a p b ∧ 0 ≤ k * ge_x a p e.1 + l * ge_x a p e.2 ∧ 0 ≤ k * ge_x p b e.1 + l * ge_x p b e.2 ∧ 0 ≤ k * ge_x b a e.1 + l * ge_x b a e.2) ∨ (ge_x a p b < 0 ∧ k * ge_x a p e.1 + l * ge_x a p e.2 ≤ 0 ∧ k * ge_x p b e.1 + l * ge_x p b e.2 ≤ 0 ∧ k * ge_x b a e.1 + l * ge_x b a e.2 ≤ 0)) :
    k * ge_x b a e.1 + l * ge_x b a e.2 = 0 ∧ ((k * ge_x a p e.1 + l * ge_x a p e.2 = 0 ∨ k * ge_x p b e.1 + l * ge_x p b e.2 = 0)) := by
  rcases h with ⟨hD, h1, h2, h3⟩ | ⟨hD, h1, h2, h3⟩
  · exact ge_free hP hM hD (fun v hv hi => hem v hv (.inl ⟨hD, hi⟩)) he hk hl hkl h1 h2 h3
  · have hP' := ge_S_m hP
    have e0 : (p :: b :: M ++ [a]).map ge_m = ge_m p :: ge_m b :: M.map ge_m ++ [ge_m a] := by simp
    rw [e0] at hP'
    have e1 : ge_m b :: M.map ge_m ++ [ge_m a] = (b :: M ++ [a]).map ge_m := by simp
    have neg : ∀ A B : Int, k * -A + l * -B = - (k * A + l * B) := fun A B => by grind
    have := ge_free (e := (ge_m e.1, ge_m e.2)) hP' (by simpa using hM) (by rw [ge_x_m]; omega) (fun v hv hi => by
      obtain ⟨v0, hv0, rfl⟩ := List.mem_map.mp hv
      exact hem v0 hv0 (.inr ⟨hD, ge_in_m.mp hi⟩)) (by rw [e1, ge_E_map]; exact List.mem_map.mpr ⟨e, he, rfl⟩) hk hl hkl (by dsimp only; rw [ge_x_m, ge_x_m, neg]; omega) (by dsimp only; rw [ge_x_m, ge_x_m, neg]; omega) (by dsimp only; rw [ge_x_m, ge_x_m, neg]; omega)
    dsimp only at this
    rw [ge_x_m, ge_x_m, ge_x_m, ge_x_m, ge_x_m, ge_x_m, neg, neg, neg] at this
    omega
/-- strictly within -/
def ge_inX (a p b x : ge_P) : Prop := (0 < ge_x a p b ∧ 0 < ge_x a p x ∧ 0 < ge_x p b x ∧ 0 < ge_x b a x) ∨ (ge_x a p b < 0 ∧ ge_x a p x < 0 ∧ ge_x p b x < 0 ∧ ge_x b a x < 0)
theorem ge_TW_in {x a p b : ge_P} (h : ge_inX a p b x) : (0 < ge_x a p b → ge_TW x a p b = -1) ∧ (ge_x a p b < 0 → ge_TW x a p b = 1) := by
  rcases h with ⟨h0, h1, h2, h3⟩ | ⟨h0, h1, h2, h3⟩
  · exact ⟨fun _ => (ge_tri h0).2.1 h2 h3 h1, fun _ => by omega⟩
  · refine ⟨fun _ => by omega, fun _ => ?_⟩
    have e : ge_x b p a = - ge_x a p b := by unfold ge_x; grind
    have s1 := ge_x_swap a p x
    have s2 := ge_x_swap p b x
    have s3 := ge_x_swap b a x
    have := (ge_tri (x := x) (a := b) (b := p) (c := a) (by omega)).2.1 (by omega) (by omega) (by omega)
    rw [ge_TW_swap] at this
    omega
theorem ge_inX_W {v b a : ge_P} {M : List ge_P} (hP : ge_S (v :: b :: M ++ [a])) {D : Int} (hD : ge_Sg (v :: b :: M ++ [a]) D) (ht : ge_ss D (ge_x a v b)) (hem : ∀ u ∈ M, ¬ ge_inS a v b u) {w : ge_P} (hw : ge_off w (v :: b :: M ++ [a])) (hi : ge_inX a v b w) : ge_W w (v :: b :: M ++ [a]) ≠ 0 := by
  rw [ge_W_cut]
  have hTW := ge_TW_in hi
  by_cases hM : M = []
  · subst hM
    have e2 : ge_W w (b :: [] ++ [a]) = 0 := by
      have := ge_w_swap w a b
      simp [ge_W, ge_cl, ge_C]; omega
    rw [e2]
    rcases ht with ⟨-, g⟩ | ⟨-, g⟩
    · have := hTW.1 g; omega
    · have := hTW.2 g; omega
  · have htne : ge_x a v b ≠ 0 := by unfold ge_ss at ht; omega
    have hS' := ge_S_cut hP hM htne hem
    obtain ⟨D', hD'⟩ := ge_Sg_ex hS'
    have hss := ge_sense hP hM hD ht hem hD'
    have hoff : ge_off w (b :: M ++ [a]) := by
      refine ge_off_sub (u := a) (w := b) hw ?_ ?_
      · intro hm
        obtain ⟨i, j, k, l, hwt⟩ := hm
        have hpos : 0 < k + l := by obtain ⟨-, -, -, -, h5, h6, -⟩ := hwt; omega
        have a1 := ge_aff hwt b a
        have z := ge_x_00 b a
        rw [z.1, z.2.1] at a1
        have b1 : (k + l) * ge_x b a w = 0 := by rw [Int.add_mul]; simpa using a1
        unfold ge_inX at hi
        rcases Int.mul_eq_zero.mp b1 with g | g <;> omega
      · intro e he
        rw [ge_Ed_line, List.mem_append, List.mem_singleton] at he
        rcases he with g | g
        · exact .inl (ge_S_mid hP g)
        · exact .inr (.inl g)
    have hA := ge_A _ _ (Nat.le_refl _) hS' _ hD' w hoff
    rcases ht with ⟨g1, g⟩ | ⟨g1, g⟩
    · have := hTW.1 g
      have := hA.1 (by unfold ge_ss at hss; omega)
      omega
    · have := hTW.2 g
      have := hA.2 (by unfold ge_ss at hss; omega)
      omega
