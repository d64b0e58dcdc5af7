theorem ge_E_map (f : ge_P → ge_P) : ∀ l : List ge_P, ge_E (l.map f) = (ge_E l).map (fun e => (f e.1, f e.2))
  | [] => rfl
  | [a] => rfl
  | a :: b :: l => by
    have := ge_E_map f (b :: l)
    simp [ge_E] at this ⊢
    exact this
theorem ge_Ed_map (f : ge_P → ge_P) (P : List ge_P) : ge_Ed (P.map f) = (ge_Ed P).map (fun e => (f e.1, f e.2)) := by
  cases P with
  | nil => rfl
  | cons p l =>
    have := ge_E_map f (p :: l ++ [p])
    simpa [ge_Ed, ge_cl] using this
theorem ge_S_map {f : ge_P → ge_P} (hi : ∀ a b, f a = f b → a = b) (hw : ∀ a b c d i j k l, ge_wt (f a) (f b) (f c) (f d) i j k l → ge_wt a b c d i j k l) {P : List ge_P} (h : ge_S P) : ge_S (P.map f) := by
  refine ⟨?_, by simpa using h.2.1, ?_⟩
  · exact List.Pairwise.map _ (fun a b hab hf => hab (hi a b hf)) h.1
  · intro e he g hg hne
    rw [ge_Ed_map] at he hg
    obtain ⟨e0, he0, rfl⟩ := List.mem_map.mp he
    obtain ⟨g0, hg0, rfl⟩ := List.mem_map.mp hg
    have hne0 : e0 ≠ g0 := fun z => hne (by rw [z])
    intro i j k l hwt
    rcases h.2.2 e0 he0 g0 hg0 hne0 i j k l (hw _ _ _ _ _ _ _ _ hwt) with ⟨h1, h2, h3⟩ | ⟨h1, h2, h3⟩
    · exact .inl ⟨h1, h2, congrArg f h3⟩
    · exact .inr ⟨h1, h2, congrArg f h3⟩
theorem ge_m_inj (a b : ge_P) (h : ge_m a = ge_m b) : a = b := by
  unfold ge_m at h
  have h1 := congrArg Prod.fst h
  have h2 := congrArg Prod.snd h
  exact Prod.ext (by simpa using h1) (by simpa using h2)
theorem ge_m_m (a : ge_P) : ge_m (ge_m a) = a := by unfold ge_m; simp
theorem ge_S_m {P : List ge_P} (h : ge_S P) : ge_S (P.map ge_m) := ge_S_map ge_m_inj (fun _ _ _ _ _ _ _ _ h => ge_wt_m h) h
/-- in the corner's triangle, whichever way it turns -/
def ge_inS (a p b x : ge_P) : Prop := (0 < ge_x a p b ∧ ge_in a p b x) ∨ (ge_x a p b < 0 ∧ ge_in b p a x)
theorem ge_cf_m {u v : ge_P} {e : ge_P × ge_P} (h : ge_cf (ge_m u) (ge_m v) (ge_m e.1, ge_m e.2)) : ge_cf u v e := by
  intro i j k l hw
  have hw' : ge_wt (ge_m u) (ge_m v) (ge_m e.1) (ge_m e.2) i j k l := ge_wt_m (by rw [ge_m_m, ge_m_m, ge_m_m, ge_m_m]; exact hw)
  have inj := ge_m_inj
  rcases h i j k l hw' with ⟨h1, ⟨h2, h3⟩ | ⟨h2, h3⟩⟩ | ⟨h1, ⟨h2, h3⟩ | ⟨h2, h3⟩⟩
  · exact .inl ⟨h1, .inl ⟨inj _ _ h2, h3⟩⟩
  · exact .inl ⟨h1, .inr ⟨inj _ _ h2, h3⟩⟩
  · exact .inr ⟨h1, .inl ⟨inj _ _ h2, h3⟩⟩
  · exact .inr ⟨h1, .inr ⟨inj _ _ h2, h3⟩⟩
theorem ge_in_m {a p b x : ge_P} : ge_in (ge_m a) (ge_m p) (ge_m b) (ge_m x) ↔ ge_in b p a x := by
  unfold ge_in
  rw [ge_x_m, ge_x_m, ge_x_m, ge_x_swap p b, ge_x_swap a p, ge_x_swap b a]
  constructor <;> intro h <;> omega
theorem ge_ear_cfS {p b a : ge_P} {M : List ge_P} (hP : ge_S (p :: b :: M ++ [a])) (hM : M ≠ []) (hD : ge_x a p b ≠ 0) (hem : ∀ v ∈ M, ¬ ge_inS a p b v) {e : ge_P × ge_P} (he : e ∈ ge_E (b :: M ++ [a])) : ge_cf a b e := by
  rcases (show 0 < ge_x a p b ∨ ge_x a p b < 0 by omega) with h | h
  · exact ge_ear_cf hP hM h (fun v hv hi => hem v hv (.inl ⟨h, hi⟩)) he
  · apply ge_cf_m
    have hP' := ge_S_m hP
    have e0 : (p :: b :: M ++ [a]).map ge_m = ge_m p :: ge_m b :: M.map ge_m ++ [ge_m a] := by simp
    rw [e0] at hP'
    refine ge_ear_cf hP' (by simpa using hM) (by rw [ge_x_m]; omega) ?_ ?_
    · intro v hv hi
      obtain ⟨v0, hv0, rfl⟩ := List.mem_map.mp hv
      exact hem v0 hv0 (.inr ⟨h, ge_in_m.mp hi⟩)
    · have : ge_m b :: M.map ge_m ++ [ge_m a] = (b :: M ++ [a]).map ge_m := by simp
      rw [this, ge_E_map]
      exact List.mem_map.mpr ⟨e, he, rfl⟩
theorem ge_Ed_line (b a : ge_P) (M : List ge_P) : ge_Ed (b :: M ++ [a]) = ge_E (b :: M ++ [a]) ++ [(a, b)] := by
  have h := ge_E_app (b :: M) [b] a
  simp [ge_Ed, ge_cl, ge_E] at h ⊢
  exact h
theorem ge_E_first {l : List ge_P} {b w : ge_P} (hn : (b :: l).Nodup) : (w, b) ∉ ge_E (b :: l) := by
  intro h
  cases l with
  | nil => simp [ge_E] at h
  | cons c l =>
    simp [ge_E] at h
    rcases h with h | h
    · have := h.2; subst this; simp at hn
    · exact (List.nodup_cons.mp hn).1 (ge_E_mem h).2
/-- a closed chain that is shut by a free segment -/
theorem ge_S_shut {b a : ge_P} {M : List ge_P} (hn : (b :: M ++ [a]).Nodup) (hM : M ≠ []) (hE : ∀ e ∈ ge_E (b :: M ++ [a]), ∀ f ∈ ge_E (b :: M ++ [a]), e ≠ f → ge_ok e f) (hc : ∀ e ∈ ge_E (b :: M ++ [a]), ge_cf a b e) : ge_S (b :: M ++ [a]) := by
  have key : ∀ e ∈ ge_E (b :: M ++ [a]), ge_ok (a, b) e := by
    intro e he i j k l hw
    rcases hc e he i j k l hw with ⟨h1, ⟨h2, h3⟩ | ⟨h2, h3⟩⟩ | ⟨h1, ⟨h2, h3⟩ | ⟨h2, h3⟩⟩
    · exact .inl ⟨h1, h3, h2⟩
    · exfalso
      obtain ⟨e1, e2⟩ := e
      dsimp only at h2
      subst h2
      exact ge_E_first (l := M ++ [a]) (by simpa using hn) (by simpa using he)
    · exfalso
      obtain ⟨e1, e2⟩ := e
      dsimp only at h2
      subst h2
      exact ge_E_last (l := b :: M) hn he
    · exact .inr ⟨h1, h3, h2⟩
  refine ⟨hn, ?_, ?_⟩
  · cases M with
    | nil => exact absurd rfl hM
    | cons m M => simp
  · intro e he f hf hne
    rw [ge_Ed_line, List.mem_append, List.mem_singleton] at he hf
    rcases he with he | he <;> rcases hf with hf | hf
    · exact hE e he f hf hne
    · subst hf; exact ge_ok_symm (key e he)
    · subst he; exact key f hf
    · subst he; subst hf; exact absurd rfl hne
theorem ge_S_mid {p b a : ge_P} {M : List ge_P} (_ : ge_S (p :: b :: M ++ [a])) {e : ge_P × ge_P} (he : e ∈ ge_E (b :: M ++ [a])) : e ∈ ge_Ed (p :: b :: M ++ [a]) := by
  rw [ge_Ed_cons]; simp at he ⊢; exact .inr (.inl he)
theorem ge_S_cut {p b a : ge_P} {M : List ge_P} (hP : ge_S (p :: b :: M ++ [a])) (hM : M ≠ []) (hD : ge_x a p b ≠ 0) (hem : ∀ v ∈ M, ¬ ge_inS a p b v) : ge_S (b :: M ++ [a]) :=
  ge_S_shut (by have := hP.1; simp at this ⊢; grind) hM (fun e he f hf hne => hP.2.2 e (ge_S_mid hP he) f (ge_S_mid hP hf) hne) (fun e he => ge_ear_cfS hP hM hD hem he)
theorem ge_Ed_rot (l1 l2 : List ge_P) (e : ge_P × ge_P) : e ∈ ge_Ed (l1 ++ l2) ↔ e ∈ ge_Ed (l2 ++ l1) := by
  cases l1 with
  | nil => simp
  | cons c l1 =>
    cases l2 with
    | nil => simp
    | cons p l2 =>
      have h1 := ge_E_app (c :: l1) (l2 ++ [c]) p
      have h2 := ge_E_app (p :: l2) (l1 ++ [p]) c
      have e1 : ge_cl (c :: l1 ++ p :: l2) = c :: l1 ++ p :: (l2 ++ [c]) := by simp [ge_cl]
      have e2 : ge_cl (p :: l2 ++ c :: l1) = p :: l2 ++ c :: (l1 ++ [p]) := by simp [ge_cl]
      unfold ge_Ed
      rw [e1, e2, h1, h2]
      simp [or_comm]
theorem ge_W_rot (x : ge_P) (l1 l2 : List ge_P) : ge_W x (l1 ++ l2) = ge_W x (l2 ++ l1) := by
  cases l1 with
  | nil => simp
  | cons c l1 =>
    cases l2 with
    | nil => simp
    | cons p l2 =>
      have h1 := ge_C_app x (c :: l1) (l2 ++ [c]) p
      have h2 := ge_C_app x (p :: l2) (l1 ++ [p]) c
      have e1 : ge_cl (c :: l1 ++ p :: l2) = c :: l1 ++ p :: (l2 ++ [c]) := by simp [ge_cl]
      have e2 : ge_cl (p :: l2 ++ c :: l1) = p :: l2 ++ c :: (l1 ++ [p]) := by simp [ge_cl]
      unfold ge_W
      rw [e1, e2, h1, h2]
      simp
      omega
theorem ge_S_rot {l1 l2 : List ge_P} (h : ge_S (l1 ++ l2)) : ge_S (l2 ++ l1) := by
  refine ⟨List.perm_append_comm.nodup_iff.mp h.1, by have := h.2.1; simp at this ⊢; omega, fun e he f hf hne => ?_⟩
  exact h.2.2 e ((ge_Ed_rot l1 l2 e).mpr he) f ((ge_Ed_rot l1 l2 f).mpr hf) hne
theorem ge_max (Q : ge_P → Prop) (f : ge_P → Int) : ∀ l : List ge_P, (∃ v ∈ l, Q v) → ∃ q ∈ l, Q q ∧ ∀ v ∈ l, Q v → f v ≤ f q
  | [], h => by obtain ⟨v, hv, -⟩ := h; simp at hv
  | a :: l, h => by
    by_cases hl : ∃ v ∈ l, Q v
    · obtain ⟨q, hq, hQ, hm⟩ := ge_max Q f l hl
      by_cases ha : Q a ∧ f q < f a
      · refine ⟨a, by simp, ha.1, fun v hv hQv => ?_⟩
        rcases List.mem_cons.mp hv with h | h
        · subst h; omega
        · have := hm v h hQv; omega
      · refine ⟨q, by simp [hq], hQ, fun v hv hQv => ?_⟩
        rcases List.mem_cons.mp hv with h | h
        · subst h
          rcases Int.lt_or_le (f q) (f v) with h' | h'
          · exact absurd ⟨hQv, h'⟩ ha
          · exact h'
        · exact hm v h hQv
    · obtain ⟨v, hv, hQ⟩ := h
      rcases List.mem_cons.mp hv with h | h
      · subst h
        refine ⟨v, by simp, hQ, fun w hw hQw => ?_⟩
        rcases List.mem_cons.mp hw with h | h
        · subst h; omega
        · exact absurd ⟨w, h, hQw⟩ hl
      · exact absurd ⟨v, h, hQ⟩ hl
/-- the farthest corner in the triangle is seen from p -/
theorem ge_chord {p b a : ge_P} {M : List ge_P} (hP : ge_S (p :: b :: M ++ [a])) (hD : 0 < ge_x a p b) {q : ge_P} (hqM : q ∈ M) (hqT : ge_in a p b q) (hmax : ∀ v ∈ M, ge_in a p b v → ge_x b a v ≤ ge_x b a q) {e : ge_P × ge_P} (he : e ∈ ge_Ed (p :: b :: M ++ [a])) : ge_cf p q e := by
  have hn := hP.1
  have hpP : p ∈ p :: b :: M ++ [a] := by simp
  have hqP : q ∈ p :: b :: M ++ [a] := by simp [hqM]
  have hqp : q ≠ p := by rintro rfl; simp at hn; grind
  have hqb : q ≠ b := by rintro rfl; simp at hn; grind
  have hqa : q ≠ a := by rintro rfl; simp at hn; grind
  obtain ⟨t1, t2, t3⟩ := id hqT
  obtain ⟨s1, s2, s3⟩ := ge_bary a p b q
  have hDne : ge_x a p b ≠ 0 := by omega
  have F3lt : ge_x b a q < ge_x a p b := by
    rcases Int.lt_or_le (ge_x b a q) (ge_x a p b) with h | h
    · exact h
    · exfalso
      apply hqp
      have z1 : ge_x a p q = 0 := by omega
      have z2 : ge_x p b q = 0 := by omega
      have z3 : ge_x b a q = ge_x a p b := by omega
      rw [z1, z2, z3] at s2 s3
      simp only [Int.zero_mul, Int.zero_add, Int.add_zero] at s2 s3
      have y1 : p.1 - q.1 = 0 := by rcases Int.mul_eq_zero.mp s3 with h | h <;> omega
      have y2 : p.2 - q.2 = 0 := by rcases Int.mul_eq_zero.mp s2 with h | h <;> omega
      exact Prod.ext (by omega) (by omega)
  intro i j k l hw
  obtain ⟨hi, hj, hk, hl, hs, hs2, h7, h8⟩ := id hw
  rcases (show i = 0 ∨ 0 < i by omega) with hi0 | hi0
  · left
    subst hi0
    exact ⟨rfl, ge_V hP hqP he (i := j) (j := 0) ⟨by omega, by omega, hk, hl, by omega, by omega, by grind, by grind⟩⟩
  rcases (show j = 0 ∨ 0 < j by omega) with hj0 | hj0
  · right
    subst hj0
    exact ⟨rfl, ge_V hP hpP he (i := i) (j := 0) ⟨by omega, by omega, hk, hl, by omega, by omega, by grind, by grind⟩⟩
  exfalso
  have a1 := ge_aff hw a p
  have a2 := ge_aff hw p b
  have a3 := ge_aff hw b a
  have z1 := ge_x_00 a p
  have z2 := ge_x_00 p b
  have z3 := ge_x_00 b a
  have hD3 : ge_x b a p = ge_x a p b := by rw [ge_x_rot, ge_x_rot]
  rw [z1.2.1] at a1
  rw [z2.1] at a2
  rw [hD3] at a3
  simp only [Int.mul_zero, Int.zero_add] at a1 a2
  have m1 := Int.mul_nonneg hj t1
  have m2 := Int.mul_nonneg hj t2
  have m3 := Int.mul_nonneg hj t3
  have m4 := Int.mul_pos hi0 hD
  have m5 := Int.mul_pos hi0 (show 0 < ge_x a p b - ge_x b a q by omega)
  have hEd := ge_Ed_cons p b a M
  rw [hEd] at he
  simp only [List.mem_cons, List.mem_append, List.not_mem_nil, or_false] at he
  rcases he with he | he | he
  · -- the first edge
    subst he
    dsimp only at a2
    rw [z2.1, z2.2.1] at a2
    simp only [Int.mul_zero, Int.zero_add, Int.add_zero] at a2
    have y : ge_x p b q = 0 := by rcases Int.mul_eq_zero.mp a2.symm with h | h <;> omega
    have := ge_V hP hqP (e := (p, b)) (by rw [hEd]; simp) (i := ge_x a p b) (j := 0) (k := ge_x b a q) (l := ge_x a p q) ⟨by omega, by omega, by omega, by omega, by omega, by omega, by grind, by grind⟩
    rcases this with ⟨h, -⟩ | ⟨h, -⟩
    · exact hqp h
    · exact hqb h
  · -- in between
    have hm := ge_E_mem (l := b :: M ++ [a]) he
    have far : ∀ c d : ge_P, ∀ k l : Int, ((c = e.1 ∧ d = e.2) ∨ (c = e.2 ∧ d = e.1)) → 0 ≤ k → 0 ≤ l → 0 < k + l → k * ge_x a p c + l * ge_x a p d = j * ge_x a p q → k * ge_x p b c + l * ge_x p b d = j * ge_x p b q → k * ge_x b a c + l * ge_x b a d = i * ge_x a p b + j * ge_x b a q → c ∈ b :: M ++ [a] → ¬ ge_x b a q < ge_x b a c := by
      intro c d k l hcd hk hl hkl b1 b2 b3 hc h
      rcases Int.lt_or_le (ge_x a p c) 0 with q1 | q1
      · exact ge_NX hP hD he hcd hk hl hkl (by omega) (by omega) (by omega) (by omega) (.inl q1) (.inl (by omega))
      · rcases Int.lt_or_le (ge_x p b c) 0 with q2 | q2
        · exact ge_NX hP hD he hcd hk hl hkl (by omega) (by omega) (by omega) (by omega) (.inr q2) (.inl (by omega))
        · simp at hc
          rcases hc with g | g | g
          · subst g; omega
          · have := hmax c g ⟨q1, q2, by omega⟩; omega
          · subst g; omega
    have f1 := far e.1 e.2 k l (.inl ⟨rfl, rfl⟩) hk hl (by omega) a1 a2 a3 hm.1
    have f2 := far e.2 e.1 l k (.inr ⟨rfl, rfl⟩) hl hk (by omega) (by omega) (by omega) (by omega) hm.2
    have n1 := Int.mul_nonneg hk (show 0 ≤ ge_x b a q - ge_x b a e.1 by omega)
    have n2 := Int.mul_nonneg hl (show 0 ≤ ge_x b a q - ge_x b a e.2 by omega)
    have e0 : i = k + l - j := by omega
    subst e0
    clear far f1 f2 a1 a2 m1 m2 m3 s1 s2 s3 h7 h8 hw t1 t2 t3
    grind
  · -- the last edge
    subst he
    dsimp only at a1
    rw [z1.1, z1.2.1] at a1
    simp only [Int.mul_zero, Int.zero_add, Int.add_zero] at a1
    have y : ge_x a p q = 0 := by rcases Int.mul_eq_zero.mp a1.symm with h | h <;> omega
    have := ge_V hP hqP (e := (a, p)) (by rw [hEd]; simp) (i := ge_x a p b) (j := 0) (k := ge_x p b q) (l := ge_x b a q) ⟨by omega, by omega, by omega, by omega, by omega, by omega, by grind, by grind⟩
    rcases this with ⟨h, -⟩ | ⟨h, -⟩
    · exact hqa h
    · exact hqp h
/-! past a corner -/
theorem ge_W_cons (x p b a : ge_P) (M : List ge_P) : ge_W x (p :: b :: M ++ [a]) = ge_w x p b + ge_C x (b :: M ++ [a]) + ge_w x a p := by
  have h := ge_C_app x (b :: M) [p] a
  simp [ge_W, ge_cl, ge_C] at h ⊢
  omega
theorem ge_W_line (x b a : ge_P) (M : List ge_P) : ge_W x (b :: M ++ [a]) = ge_C x (b :: M ++ [a]) + ge_w x a b := by
  have h := ge_C_app x (b :: M) [b] a
  simp [ge_W, ge_cl, ge_C] at h ⊢
  omega
theorem ge_W_cut (x p b a : ge_P) (M : List ge_P) : ge_W x (p :: b :: M ++ [a]) = ge_W x (b :: M ++ [a]) + ge_TW x a p b := by
  rw [ge_W_cons, ge_W_line]
  unfold ge_TW
  have := ge_w_swap x a b
  omega
theorem ge_W_split (x p b q a : ge_P) (M2 M1 : List ge_P) : ge_W x (p :: b :: (M2 ++ q :: M1) ++ [a]) = ge_W x (p :: b :: M2 ++ [q]) + ge_W x (p :: q :: M1 ++ [a]) := by
  rw [ge_W_cons, ge_W_cons, ge_W_cons]
  have := ge_w_swap x p q
  have h := ge_C_app x (b :: M2) (M1 ++ [a]) q
  simp at h ⊢
  omega
def ge_lt (x y : ge_P) : Prop := x.2 < y.2 ∨ (x.2 = y.2 ∧ x.1 < y.1)
theorem ge_mem_mid {p b a : ge_P} {M : List ge_P} {e : ge_P × ge_P} (h : e ∈ ge_Ed (p :: b :: M ++ [a])) : e = (p, b) ∨ e ∈ ge_E (b :: M ++ [a]) ∨ e = (a, p) := by
  rw [ge_Ed_cons] at h
  simp only [List.mem_cons, List.mem_append, List.not_mem_nil, or_false] at h ⊢
  exact h
theorem ge_J3 {x z p r s : ge_P} {N : List ge_P} (h1 : x.2 < p.2) (h2 : p.2 < z.2) (hp : ge_x x z p = 0) (hs : (0 < ge_x x z r ∧ 0 < ge_x x z s) ∨ (ge_x x z r < 0 ∧ ge_x x z s < 0)) (hm : ∀ e ∈ ge_E (r :: N ++ [s]), ¬ ge_meet e.1 e.2 x z) : ge_W x (p :: r :: N ++ [s]) = ge_W z (p :: r :: N ++ [s]) := by
  rcases hs with ⟨hr, hs⟩ | ⟨hr, hs⟩
  · refine ge_J0 (ge_g2 x z) (fun e he => ?_)
    rcases ge_mem_mid he with h | h | h
    · subst h; exact ge_thruL h1 h2 hp hr
    · have q := hm e h
      rw [ge_g2_eq q, ge_g2_eq (mt ge_meet_swap q)]
      exact ge_loc q (by omega)
    · subst h
      have := ge_thruL h1 h2 hp hs
      have e1 := ge_w_swap x p s
      have e2 := ge_w_swap z p s
      dsimp only
      omega
  · refine ge_J0 (ge_g x z) (fun e he => ?_)
    rcases ge_mem_mid he with h | h | h
    · subst h; exact ge_thruR h1 h2 hp hr
    · exact ge_loc (hm e h) (by omega)
    · subst h
      have := ge_thruR h1 h2 hp hs
      have e1 := ge_w_swap x p s
      have e2 := ge_w_swap z p s
      dsimp only
      omega
/-- a place that the lowest corner sees, outside of the corner's angle, is outside -/
theorem ge_KK {p r s u : ge_P} {N : List ge_P} (hlow : ∀ v ∈ r :: N ++ [s], ge_lt p v) (hu : ge_lt p u) (hs : (0 < ge_x p u r ∧ 0 < ge_x p u s) ∨ (ge_x p u r < 0 ∧ ge_x p u s < 0)) (hm : ∀ e ∈ ge_E (r :: N ++ [s]), ¬ ge_meet e.1 e.2 p u) : ge_W u (p :: r :: N ++ [s]) = 0 := by
  rcases hu with hu | ⟨hu, hu1⟩
  · let z : ge_P := (2 * p.1 - u.1, 2 * p.2 - u.2)
    have hx : ∀ v, ge_x z u v = 2 * ge_x p u v := by intro v; show ge_x (2 * p.1 - u.1, 2 * p.2 - u.2) u v = _; unfold ge_x; grind
    have hz : z.2 = 2 * p.2 - u.2 := rfl
    have hz1 : z.1 = 2 * p.1 - u.1 := rfl
    have hW : ge_W z (p :: r :: N ++ [s]) = 0 := by
      apply ge_W_low
      intro v hv
      have : v = p ∨ v ∈ r :: N ++ [s] := by simpa using hv
      rcases this with h | h
      · subst h; left; omega
      · rcases hlow v h with g | g <;> (left; omega)
    rw [← hW]
    symm
    refine ge_J3 (by omega) (by omega) (by rw [hx, (ge_x_00 p u).1]; rfl) (by rw [hx, hx]; omega) (fun e he hmt => ?_)
    obtain ⟨i, j, k, l, hi, hj, hk, hl, h5, h6, h7, h8⟩ := hmt
    rw [hz] at h8
    rw [hz1] at h7
    rcases Int.lt_or_le l k with hlk | hlk
    · have hm2 := ge_E_mem he
      have v1 : p.2 ≤ e.1.2 := by rcases hlow _ hm2.1 with g | g <;> omega
      have v2 : p.2 ≤ e.2.2 := by rcases hlow _ hm2.2 with g | g <;> omega
      have q1 := Int.mul_nonneg hi (show 0 ≤ e.1.2 - p.2 by omega)
      have q2 := Int.mul_nonneg hj (show 0 ≤ e.2.2 - p.2 by omega)
      have q3 := Int.mul_pos (show 0 < k - l by omega) (show 0 < u.2 - p.2 by omega)
      have e0 : i = k + l - j := by omega
      subst e0
      grind
    · exact hm e he ⟨i, j, 2 * k, l - k, hi, hj, by omega, by omega, h5, by omega, by grind, by grind⟩
  · have e1 : ∀ v, ge_x p u v = (u.1 - p.1) * (v.2 - p.2) := by intro v; unfold ge_x; grind
    have up : ∀ v, ge_lt p v → ge_x p u v ≠ 0 → p.2 < v.2 := by
      intro v hv h0
      rcases hv with h | h
      · exact h
      · exfalso; apply h0; rw [e1]; rw [← h.1]; grind
    have hr := up r (hlow r (by simp)) (by omega)
    have hs' := up s (hlow s (by simp)) (by omega)
    rw [ge_W_cons]
    have w1 : ge_w u p r = 1 := by
      have : ge_x p r u = - ((r.2 - p.2) * (u.1 - p.1)) := by unfold ge_x; grind
      have := Int.mul_pos (show 0 < r.2 - p.2 by omega) (show 0 < u.1 - p.1 by omega)
      unfold ge_w; grind
    have w2 : ge_w u s p = -1 := by
      have : ge_x s p u = (s.2 - p.2) * (u.1 - p.1) := by unfold ge_x; grind
      have := Int.mul_pos (show 0 < s.2 - p.2 by omega) (show 0 < u.1 - p.1 by omega)
      unfold ge_w; grind
    have w0 : ∀ c d : ge_P, (c, d) ∈ ge_E (r :: N ++ [s]) → ge_w u c d = 0 := by
      intro c d hcd
      have hm2 := ge_E_mem hcd
      have lc := hlow _ hm2.1
      have ld := hlow _ hm2.2
      dsimp only at lc ld
      have hn := hm _ hcd
      dsimp only at hn
      have on : ∀ c d : ge_P, ge_lt p c → c.2 = u.2 → c.1 < u.1 → ge_meet c d p u := by
        intro c d h1 h2 h3
        have h4 : p.1 < c.1 := by rcases h1 with h | h <;> omega
        refine ⟨u.1 - p.1, 0, u.1 - c.1, c.1 - p.1, by omega, by omega, by omega, by omega, by omega, by omega, by grind, by grind⟩
      unfold ge_w
      split
      · rename_i h
        exfalso
        have c2 : c.2 = u.2 := by rcases lc with g | g <;> omega
        have : ge_x c d u = - ((d.2 - c.2) * (u.1 - c.1)) := by unfold ge_x; grind
        rcases Int.lt_or_le c.1 u.1 with g | g
        · exact hn (on c d lc c2 g)
        · have := Int.mul_nonneg (show 0 ≤ d.2 - c.2 by omega) (show 0 ≤ c.1 - u.1 by omega)
          grind
      · split
        · rename_i h
          exfalso
          have c2 : d.2 = u.2 := by rcases ld with g | g <;> omega
          have : ge_x c d u = (c.2 - d.2) * (u.1 - d.1) := by unfold ge_x; grind
          rcases Int.lt_or_le d.1 u.1 with g | g
          · exact hn (ge_meet_swap (on d c ld c2 g))
          · have := Int.mul_nonneg (show 0 ≤ c.2 - d.2 by omega) (show 0 ≤ d.1 - u.1 by omega)
            grind
        · rfl
    have w3 : ∀ l : List ge_P, (∀ c d, (c, d) ∈ ge_E l → ge_w u c d = 0) → ge_C u l = 0 := by
      intro l
      induction l with
      | nil => intro _; rfl
      | cons c l ih =>
        intro h
        cases l with
        | nil => rfl
        | cons d l =>
          have g1 := h c d (by simp [ge_E])
          have g2 := ih (fun x y hxy => h x y (by simp [ge_E, hxy]))
          simp [ge_C]
          omega
    rw [w1, w2, w3 _ w0]
    rfl
/-! scaling -/
def ge_sc (n : Int) (x : ge_P) : ge_P := (n * x.1, n * x.2)
theorem ge_x_sc (n : Int) (a b c : ge_P) : ge_x (ge_sc n a) (ge_sc n b) (ge_sc n c) = n * n * ge_x a b c := by unfold ge_x ge_sc; grind
theorem ge_wt_sc {n : Int} (hn : 0 < n) {a b x y : ge_P} {i j k l : Int} (h : ge_wt (ge_sc n a) (ge_sc n b) (ge_sc n x) (ge_sc n y) i j k l) : ge_wt a b x y i j k l := by
  obtain ⟨h1, h2, h3, h4, h5, h6, h7, h8⟩ := h
  simp only [ge_sc] at h7 h8
  exact ⟨h1, h2, h3, h4, h5, h6, Int.eq_of_mul_eq_mul_left (show n ≠ 0 by omega) (by grind), Int.eq_of_mul_eq_mul_left (show n ≠ 0 by omega) (by grind)⟩
theorem ge_sc_inj {n : Int} (hn : 0 < n) (a b : ge_P) (h : ge_sc n a = ge_sc n b) : a = b := by
  unfold ge_sc at h
  have h1 : n * a.1 = n * b.1 := congrArg Prod.fst h
  have h2 : n * a.2 = n * b.2 := congrArg Prod.snd h
  exact Prod.ext (Int.eq_of_mul_eq_mul_left (by omega) h1) (Int.eq_of_mul_eq_mul_left (by omega) h2)
theorem ge_S_sc {n : Int} (hn : 0 < n) {P : List ge_P} (h : ge_S P) : ge_S (P.map (ge_sc n)) := ge_S_map (ge_sc_inj hn) (fun _ _ _ _ _ _ _ _ h => ge_wt_sc hn h) h
theorem ge_sc_lt {n a b : Int} (hn : 0 < n) : (n * a < n * b ↔ a < b) ∧ (n * a ≤ n * b ↔ a ≤ b) :=
  ⟨⟨fun h => Int.lt_of_mul_lt_mul_left h (by omega), fun h => Int.mul_lt_mul_of_pos_left h hn⟩, ⟨fun h => Int.le_of_mul_le_mul_left h hn, fun h => Int.mul_le_mul_of_nonneg_left h (by omega)⟩⟩
theorem ge_sc_pos {n a : Int} (hn : 0 < n) : (0 < n * n * a ↔ 0 < a) ∧ (n * n * a < 0 ↔ a < 0) := by
  have h := Int.mul_pos hn hn
  constructor <;> constructor <;> intro h1
  · exact Int.lt_of_mul_lt_mul_left (a := n * n) (by omega) (by omega)
  · exact Int.mul_pos h h1
  · exact Int.lt_of_mul_lt_mul_left (a := n * n) (by omega) (by omega)
  · have := Int.mul_pos h (show 0 < -a by omega); grind
theorem ge_w_sc {n : Int} (hn : 0 < n) (x a b : ge_P) : ge_w (ge_sc n x) (ge_sc n a) (ge_sc n b) = ge_w x a b := by
  unfold ge_w
  rw [ge_x_sc]
  simp only [ge_sc, (ge_sc_pos hn).1, (ge_sc_pos hn).2, (ge_sc_lt hn).1, (ge_sc_lt hn).2]
theorem ge_C_sc {n : Int} (hn : 0 < n) (x : ge_P) : ∀ l : List ge_P, ge_C (ge_sc n x) (l.map (ge_sc n)) = ge_C x l
  | [] => rfl
  | [a] => rfl
  | a :: b :: l => by
    have := ge_C_sc hn x (b :: l)
    simp [ge_C] at this ⊢
    rw [this, ge_w_sc hn]
theorem ge_W_sc {n : Int} (hn : 0 < n) (x : ge_P) (P : List ge_P) : ge_W (ge_sc n x) (P.map (ge_sc n)) = ge_W x P := by
  cases P with
  | nil => rfl
  | cons p l =>
    have := ge_C_sc hn x (p :: l ++ [p])
    simpa [ge_W, ge_cl] using this
theorem ge_sc_sc (n m : Int) (x : ge_P) : ge_sc n (ge_sc m x) = ge_sc (n * m) x := by unfold ge_sc; simp [Int.mul_assoc]
/-- a place that is not on a segment: a line parts them -/
theorem ge_part {c d m : ge_P} (h : ¬ ge_meet c d m m) : ∃ u1 u2 : Int, 0 < u1 * (m.1 - c.1) + u2 * (m.2 - c.2) ∧ 0 < u1 * (m.1 - d.1) + u2 * (m.2 - d.2) := by
  rcases (show 0 < ge_x c d m ∨ ge_x c d m < 0 ∨ ge_x c d m = 0 by omega) with g | g | g
  · refine ⟨-(d.2 - c.2), d.1 - c.1, ?_, ?_⟩ <;> (unfold ge_x at g; grind)
  · refine ⟨d.2 - c.2, -(d.1 - c.1), ?_, ?_⟩ <;> (unfold ge_x at g; grind)
  · refine ⟨(m.1 - c.1) + (m.1 - d.1), (m.2 - c.2) + (m.2 - d.2), ?_⟩
    -- the product of the two ways is above 0
    let X := m.1 - c.1
    let Y := m.2 - c.2
    let X' := m.1 - d.1
    let Y' := m.2 - d.2
    have hg : X * Y' = X' * Y := by unfold ge_x at g; show (m.1 - c.1) * (m.2 - d.2) = (m.1 - d.1) * (m.2 - c.2); grind
    have sq : ∀ t : Int, 0 ≤ t * t := fun t => by
      rcases Int.le_total 0 t with h | h
      · exact Int.mul_nonneg h h
      · have := Int.mul_nonneg (show 0 ≤ -t by omega) (show 0 ≤ -t by omega); grind
    have dot : 0 < X * X' + Y * Y' := by
      rcases Int.lt_or_le 0 (X * X' + Y * Y') with h' | h'
      · exact h'
      · exfalso
        apply h
        -- weights by the coordinate that is larger
        by_cases hX : X = 0 ∧ Y = 0
        · exact ⟨1, 0, 1, 0, by omega, by omega, by omega, by omega, by omega, by omega, by have := hX.1; show 1 * c.1 + 0 * d.1 = _; simp [X] at this; omega, by have := hX.2; show 1 * c.2 + 0 * d.2 = _; simp [Y] at this; omega⟩
        · -- |X|^2+|Y|^2 > 0 ; m = c + t (d - c), t = |m-c|^2/(|m-c|^2 - dot)
          have s1 := sq X
          have s2 := sq Y
          have s3 : 0 < X * X + Y * Y := by
            rcases (show X ≠ 0 ∨ Y ≠ 0 by omega) with hx | hx
            · rcases (show 0 < X ∨ 0 < -X by omega) with hx | hx
              · have := Int.mul_pos hx hx; omega
              · have := Int.mul_pos hx hx; grind
            · rcases (show 0 < Y ∨ 0 < -Y by omega) with hx | hx
              · have := Int.mul_pos hx hx; omega
              · have := Int.mul_pos hx hx; grind
          have k1 : (-(X * X' + Y * Y')) * X + (X * X + Y * Y) * X' = 0 := by grind
          have k2 : (-(X * X' + Y * Y')) * Y + (X * X + Y * Y) * Y' = 0 := by grind
          have eX : c.1 = m.1 - X := by simp [X]; omega
          have eY : c.2 = m.2 - Y := by simp [Y]; omega
          have eX' : d.1 = m.1 - X' := by simp [X']; omega
          have eY' : d.2 = m.2 - Y' := by simp [Y']; omega
          refine ⟨-(X * X' + Y * Y'), X * X + Y * Y, (X * X + Y * Y) - (X * X' + Y * Y'), 0, by omega, by omega, by omega, by omega, by omega, by omega, ?_, ?_⟩
          · rw [eX, eX']; clear eX eY eX' eY'; generalize X = A at *; generalize Y = B at *; generalize X' = A' at *; generalize Y' = B' at *; grind
          · rw [eY, eY']; clear eX eY eX' eY'; generalize X = A at *; generalize Y = B at *; generalize X' = A' at *; generalize Y' = B' at *; grind
    have s1 := sq X
    have s2 := sq Y
    have s3 := sq X'
    have s4 := sq Y'
    constructor
    · show 0 < (X + X') * X + (Y + Y') * Y
      grind
    · show 0 < (X + X') * X' + (Y + Y') * Y'
      grind
theorem ge_eps1 {c d m : ge_P} (v : ge_P) (h : ¬ ge_meet c d m m) : ∃ n0 : Int, 0 < n0 ∧ ∀ n, n0 ≤ n → ¬ ge_meet (ge_sc n c) (ge_sc n d) (ge_sc n m) (n * m.1 + v.1, n * m.2 + v.2) := by
  obtain ⟨u1, u2, h1, h2⟩ := ge_part h
  refine ⟨(u1 * v.1 + u2 * v.2).natAbs + 1, by omega, fun n hn hm => ?_⟩
  obtain ⟨i, j, k, l, hi, hj, hk, hl, h5, h6, h7, h8⟩ := hm
  simp only [ge_sc] at h7 h8
  have q1 := Int.mul_nonneg hi (show 0 ≤ (u1 * (m.1 - c.1) + u2 * (m.2 - c.2)) - 1 by omega)
  have q2 := Int.mul_nonneg hj (show 0 ≤ (u1 * (m.1 - d.1) + u2 * (m.2 - d.2)) - 1 by omega)
  have hn0 : 0 < n := by omega
  have q3 := Int.mul_nonneg (show 0 ≤ n by omega) q1
  have q4 := Int.mul_nonneg (show 0 ≤ n by omega) q2
  -- (i + j) n <= the height of the common place over the line = - l (u . v)
  have key : n * (i * (u1 * (m.1 - c.1) + u2 * (m.2 - c.2)) + j * (u1 * (m.1 - d.1) + u2 * (m.2 - d.2))) = - (l * (u1 * v.1 + u2 * v.2)) := by
    have e0 : i = k + l - j := by omega
    subst e0
    clear q1 q2 q3 q4 h1 h2 hn hn0
    grind
  have q5 : n * (i + j) ≤ - (l * (u1 * v.1 + u2 * v.2)) := by rw [← key]; grind
  have q6 := Int.mul_nonneg hl (show 0 ≤ n - 1 + (u1 * v.1 + u2 * v.2) by omega)
  have q7 := Int.mul_nonneg hk (show 0 ≤ n by omega)
  rw [h6] at q5
  have : l = 0 ∨ 0 < l := by omega
  rcases this with h0 | h0
  · subst h0
    have := Int.mul_pos hn0 (show 0 < k by omega)
    grind
  · grind
theorem ge_eps {m : ge_P} (v : ge_P) : ∀ l : List (ge_P × ge_P), (∀ e ∈ l, ¬ ge_meet e.1 e.2 m m) → ∃ n0 : Int, 0 < n0 ∧ ∀ n, n0 ≤ n → ∀ e ∈ l, ¬ ge_meet (ge_sc n e.1) (ge_sc n e.2) (ge_sc n m) (n * m.1 + v.1, n * m.2 + v.2)
  | [], _ => ⟨1, by omega, fun _ _ e he => by simp at he⟩
  | e :: l, h => by
    obtain ⟨n1, h1, h2⟩ := ge_eps1 v (h e (by simp))
    obtain ⟨n2, h3, h4⟩ := ge_eps v l (fun f hf => h f (by simp [hf]))
    refine ⟨n1 + n2, by omega, fun n hn f hf => ?_⟩
    rcases List.mem_cons.mp hf with g | g
    · subst g; exact h2 n (by omega)
    · exact h4 n (by omega) f g
/-- the empty triangle of a corner is free of the other edges -/
theorem ge_free {p b a : ge_P} {M : List ge_P} (hP : ge_S (p :: b :: M ++ [a])) (hM : M ≠ []) (hD : 0 < ge_x a p b) (hem : ∀ v ∈ M, ¬ ge_in a p b v) {e : ge_P × ge_P} (he : e ∈ ge_E (b :: M ++ [a])) {k l : Int} (hk : 0 ≤ k) (hl : 0 ≤ l) (hkl : 0 < k + l)
    (p1 : 0 ≤ k * ge_x a p e.1 + l * ge_x a p e.2) (p2 : 0 ≤ k * ge_x p b e.1 + l * ge_x p b e.2) (p3 : 0 ≤ k * ge_x b a e.1 + l * ge_x b a e.2) :
    k * ge_x b a e.1 + l * ge_x b a e.2 = 0 ∧ ((k * ge_x a p e.1 + l * ge_x a p e.2 = 0 ∨ k * ge_x p b e.1 + l * ge_x p b e.2 = 0)) := by
  have z3 := ge_x_00 b a
  have hm := ge_E_mem he
  have far : ∀ c d : ge_P, ∀ k l : Int, ((c = e.1 ∧ d = e.2) ∨ (c = e.2 ∧ d = e.1)) → 0 ≤ k → 0 ≤ l → 0 < k + l → 0 ≤ k * ge_x a p c + l * ge_x a p d → 0 ≤ k * ge_x p b c + l * ge_x p b d → 0 < k * ge_x b a c + l * ge_x b a d → c ∈ b :: M ++ [a] → ¬ 0 < ge_x b a c := by
    intro c d k l hcd hk hl hkl b1 b2 b3 hc h
    rcases Int.lt_or_le (ge_x a p c) 0 with q1 | q1
    · exact ge_NX hP hD he hcd hk hl hkl (by omega) (by omega) (by omega) (by omega) (.inl q1) (.inl b3)
    · rcases Int.lt_or_le (ge_x p b c) 0 with q2 | q2
      · exact ge_NX hP hD he hcd hk hl hkl (by omega) (by omega) (by omega) (by omega) (.inr q2) (.inl b3)
      · simp at hc
        rcases hc with g | g | g
        · subst g; omega
        · exact hem c g ⟨q1, q2, by omega⟩
        · subst g; omega
  have h3 : k * ge_x b a e.1 + l * ge_x b a e.2 = 0 := by
    rcases (show k * ge_x b a e.1 + l * ge_x b a e.2 = 0 ∨ 0 < k * ge_x b a e.1 + l * ge_x b a e.2 by omega) with h | h
    · exact h
    · exfalso
      have f1 := far e.1 e.2 k l (.inl ⟨rfl, rfl⟩) hk hl hkl p1 p2 h hm.1
      have f2 := far e.2 e.1 l k (.inr ⟨rfl, rfl⟩) hl hk (by omega) (by omega) (by omega) (by omega) hm.2
      have n1 := Int.mul_nonneg hk (show 0 ≤ - ge_x b a e.1 by omega)
      have n2 := Int.mul_nonneg hl (show 0 ≤ - ge_x b a e.2 by omega)
      grind
  refine ⟨h3, ?_⟩
  have hcf := ge_ear_cf hP hM hD hem he
  have s1 := (ge_bary a p b e.1).1
  have s2 := (ge_bary a p b e.2).1
  have hw : ge_wt a b e.1 e.2 (k * ge_x p b e.1 + l * ge_x p b e.2) (k * ge_x a p e.1 + l * ge_x a p e.2) (ge_x a p b * k) (ge_x a p b * l) := by
    have hs : (k * ge_x p b e.1 + l * ge_x p b e.2) + (k * ge_x a p e.1 + l * ge_x a p e.2) = ge_x a p b * (k + l) := by
      have e3 : ge_x p b e.1 = ge_x a p b - ge_x b a e.1 - ge_x a p e.1 := by omega
      have e4 : ge_x p b e.2 = ge_x a p b - ge_x b a e.2 - ge_x a p e.2 := by omega
      rw [e3, e4]
      clear far hcf s1 s2 e3 e4 p1 p2 p3
      grind
    have hpos := Int.mul_pos hD hkl
    refine ⟨p2, p1, Int.mul_nonneg (by omega) hk, Int.mul_nonneg (by omega) hl, by omega, by rw [hs, Int.mul_add], ?_, ?_⟩
    · clear hs far hcf s1 s2 p1 p2 p3 hpos
      unfold ge_x at *; grind
    · clear hs far hcf s1 s2 p1 p2 p3 hpos
      unfold ge_x at *; grind
  rcases hcf _ _ _ _ hw with ⟨h, -⟩ | ⟨h, -⟩
  · exact .inr h
  · exact .inl h
/-- over the side from a to b, from p -/
theorem ge_over {p b a : ge_P} {M : List ge_P} (hD : ge_x a p b ≠ 0) (hfree : ∀ e ∈ ge_E (b :: M ++ [a]), ¬ ge_meet (ge_sc 2 e.1) (ge_sc 2 e.2) (ge_sc 2 p) (a.1 + b.1, a.2 + b.2)) :
    ∃ (n : Int) (y : ge_P), 0 < n ∧ ge_off y ((b :: M ++ [a]).map (ge_sc n)) ∧ (0 < ge_x a p b → ge_W y ((b :: M ++ [a]).map (ge_sc n)) = ge_W p (b :: M ++ [a]) - 1) ∧ (ge_x a p b < 0 → ge_W y ((b :: M ++ [a]).map (ge_sc n)) = ge_W p (b :: M ++ [a]) + 1) := by
  have hoff : ∀ f ∈ (ge_E (b :: M ++ [a])).map (fun e => (ge_sc 2 e.1, ge_sc 2 e.2)), ¬ ge_meet f.1 f.2 (a.1 + b.1, a.2 + b.2) (a.1 + b.1, a.2 + b.2) := by
    intro f hf hm
    obtain ⟨e, he, rfl⟩ := List.mem_map.mp hf
    obtain ⟨i, j, k, l, hi, hj, hk, hl, h5, h6, h7, h8⟩ := hm
    exact hfree e he ⟨i, j, 0, k + l, hi, hj, by omega, by omega, h5, by omega, by grind, by grind⟩
  obtain ⟨n, hn, hN⟩ := ge_eps (m := (a.1 + b.1, a.2 + b.2)) (a.1 + b.1 - 2 * p.1, a.2 + b.2 - 2 * p.2) _ hoff
  have hN := hN n (by omega)
  let x : ge_P := ge_sc (n * 2) p
  let y : ge_P := (n * (a.1 + b.1) + (a.1 + b.1 - 2 * p.1), n * (a.2 + b.2) + (a.2 + b.2 - 2 * p.2))
  have hx1 : x.1 = n * 2 * p.1 := rfl
  have hx2 : x.2 = n * 2 * p.2 := rfl
  have hy1 : y.1 = n * (a.1 + b.1) + (a.1 + b.1 - 2 * p.1) := rfl
  have hy2 : y.2 = n * (a.2 + b.2) + (a.2 + b.2 - 2 * p.2) := rfl
  have hmid : ∀ e ∈ ge_E (b :: M ++ [a]), ¬ ge_meet (ge_sc (n * 2) e.1) (ge_sc (n * 2) e.2) x y := by
    intro e he hm
    have h1 := hfree e he
    have h2 := hN _ (List.mem_map.mpr ⟨e, he, rfl⟩)
    dsimp only at h2
    obtain ⟨i, j, k, l, hi, hj, hk, hl, h5, h6, h7, h8⟩ := hm
    rw [hx1, hy1] at h7
    rw [hx2, hy2] at h8
    simp only [ge_sc] at h7 h8
    rcases Int.lt_or_le l (k * n) with hlk | hlk
    · apply h1
      have t1 := Int.mul_nonneg (show 0 ≤ n by omega) hi
      have t2 := Int.mul_nonneg (show 0 ≤ n by omega) hj
      have t3 := Int.mul_nonneg (show 0 ≤ n by omega) hl
      have t4 := Int.mul_pos hn h5
      have e0 : n * i + n * j = k * n + n * l := by rw [← Int.mul_add, h6, Int.mul_add, Int.mul_comm n k]
      refine ⟨n * i, n * j, k * n - l, n * l + l, t1, t2, by omega, by omega, by rw [← Int.mul_add]; exact t4, by omega, ?_, ?_⟩
      · apply Int.eq_of_mul_eq_mul_left (show n ≠ 0 by omega)
        simp only [ge_sc]
        have e1 : i = k + l - j := by omega
        subst e1
        clear e0 t1 t2 t3 t4 hlk h1 h2 hoff hN hfree
        grind
      · apply Int.eq_of_mul_eq_mul_left (show n ≠ 0 by omega)
        simp only [ge_sc]
        have e1 : i = k + l - j := by omega
        subst e1
        clear e0 t1 t2 t3 t4 hlk h1 h2 hoff hN hfree
        grind
    · apply h2
      have t1 := Int.mul_nonneg hk (show 0 ≤ n by omega)
      refine ⟨i, j, k + k * n, l - k * n, hi, hj, by omega, by omega, h5, by omega, ?_, ?_⟩
      · simp only [ge_sc]; clear h1 h2 hoff hN hfree; grind
      · simp only [ge_sc]; clear h1 h2 hoff hN hfree; grind
  have hpp : 0 < n * 2 := by omega
  have sA : ge_x x y (ge_sc (n * 2) a) = (n * 2 * (n + 1)) * ge_x a p b := by unfold ge_x; rw [hx1, hx2, hy1, hy2]; simp only [ge_sc]; clear hoff hN hfree hmid; grind
  have sB : ge_x x y (ge_sc (n * 2) b) = - ((n * 2 * (n + 1)) * ge_x a p b) := by unfold ge_x; rw [hx1, hx2, hy1, hy2]; simp only [ge_sc]; clear hoff hN hfree hmid; grind
  have sx : ge_x (ge_sc (n * 2) a) (ge_sc (n * 2) b) x = - ((n * 2 * (n * 2)) * ge_x a p b) := by unfold ge_x; rw [hx1, hx2]; simp only [ge_sc]; clear hoff hN hfree hmid; grind
  have sy : ge_x (ge_sc (n * 2) a) (ge_sc (n * 2) b) y = (n * 2 * 2) * ge_x a p b := by unfold ge_x; rw [hy1, hy2]; simp only [ge_sc]; clear hoff hN hfree hmid; grind
  have c1 : 0 < n * 2 * (n + 1) := Int.mul_pos hpp (by omega)
  have c2 : 0 < n * 2 * (n * 2) := Int.mul_pos hpp hpp
  have c3 : 0 < n * 2 * 2 := by omega
  have emap : (b :: M ++ [a]).map (ge_sc (n * 2)) = ge_sc (n * 2) b :: M.map (ge_sc (n * 2)) ++ [ge_sc (n * 2) a] := by simp
  have hmidE : ∀ e ∈ ge_E (ge_sc (n * 2) b :: M.map (ge_sc (n * 2)) ++ [ge_sc (n * 2) a]), ¬ ge_meet e.1 e.2 x y := by
    intro e he
    rw [← emap, ge_E_map] at he
    obtain ⟨e0, he0, rfl⟩ := List.mem_map.mp he
    exact hmid e0 he0
  have hWx : ge_W x ((b :: M ++ [a]).map (ge_sc (n * 2))) = ge_W p (b :: M ++ [a]) := ge_W_sc hpp p _
  have tele1 : x.2 ≤ y.2 → ge_C x (ge_sc (n * 2) b :: M.map (ge_sc (n * 2)) ++ [ge_sc (n * 2) a]) - ge_C y (ge_sc (n * 2) b :: M.map (ge_sc (n * 2)) ++ [ge_sc (n * 2) a]) = ge_g x y (ge_sc (n * 2) a) - ge_g x y (ge_sc (n * 2) b) :=
    fun hxy => ge_tele _ _ _ _ (fun e he => ge_loc (hmidE e he) hxy)
  have tele2 : y.2 ≤ x.2 → ge_C y (ge_sc (n * 2) b :: M.map (ge_sc (n * 2)) ++ [ge_sc (n * 2) a]) - ge_C x (ge_sc (n * 2) b :: M.map (ge_sc (n * 2)) ++ [ge_sc (n * 2) a]) = ge_g y x (ge_sc (n * 2) a) - ge_g y x (ge_sc (n * 2) b) :=
    fun hxy => ge_tele _ _ _ _ (fun e he => ge_loc (fun z => hmidE e he (ge_meet_swap2 z)) hxy)
  have swx := ge_w_swap x (ge_sc (n * 2) a) (ge_sc (n * 2) b)
  have swy := ge_w_swap y (ge_sc (n * 2) a) (ge_sc (n * 2) b)
  refine ⟨n * 2, y, hpp, ?_, fun hD' => ?_, fun hD' => ?_⟩
  · intro e he hm
    rw [emap, ge_Ed_line, List.mem_append, List.mem_singleton] at he
    have hm2 : ge_meet e.1 e.2 x y := by
      obtain ⟨i, j, k, l, hi, hj, hk, hl, h5, h6, h7, h8⟩ := hm
      exact ⟨i, j, 0, k + l, hi, hj, by omega, by omega, h5, by omega, by grind, by grind⟩
    rcases he with he | he
    · exact hmidE e he hm2
    · subst he
      obtain ⟨i, j, k, l, hw⟩ := hm
      have hpos : 0 < k + l := by obtain ⟨-, -, -, -, h5, h6, -⟩ := hw; omega
      have := ge_aff hw (ge_sc (n * 2) a) (ge_sc (n * 2) b)
      have z := ge_x_00 (ge_sc (n * 2) a) (ge_sc (n * 2) b)
      rw [z.1, z.2.1, sy] at this
      have q : (k + l) * (n * 2 * 2 * ge_x a p b) = 0 := by rw [Int.add_mul]; simpa using this
      rcases Int.mul_eq_zero.mp q with q | q
      · omega
      · rcases Int.mul_eq_zero.mp q with q | q
        · omega
        · exact hD q
  · have q1 := Int.mul_pos c1 hD'
    have q2 := Int.mul_pos c2 hD'
    have q3 := Int.mul_pos c3 hD'
    rw [← hWx, emap, ge_W_line, ge_W_line]
    rcases Int.le_total x.2 y.2 with h | h
    · have t := tele1 h
      have cr := ge_cross (a := ge_sc (n * 2) a) (b := ge_sc (n * 2) b) h (by omega) (by omega) (by omega) (by omega)
      omega
    · have t := tele2 h
      have r1 := ge_x_swap x y (ge_sc (n * 2) a)
      have r2 := ge_x_swap x y (ge_sc (n * 2) b)
      have r3 := ge_x_swap (ge_sc (n * 2) a) (ge_sc (n * 2) b) x
      have r4 := ge_x_swap (ge_sc (n * 2) a) (ge_sc (n * 2) b) y
      have cr := ge_cross (a := ge_sc (n * 2) b) (b := ge_sc (n * 2) a) h (by omega) (by omega) (by omega) (by omega)
      omega
  · have q1 := Int.mul_pos c1 (show 0 < - ge_x a p b by omega)
    have q2 := Int.mul_pos c2 (show 0 < - ge_x a p b by omega)
    have q3 := Int.mul_pos c3 (show 0 < - ge_x a p b by omega)
    rw [Int.mul_neg] at q1 q2 q3
    rw [← hWx, emap, ge_W_line, ge_W_line]
    rcases Int.le_total x.2 y.2 with h | h
    · have t := tele1 h
      have r3 := ge_x_swap (ge_sc (n * 2) a) (ge_sc (n * 2) b) x
      have r4 := ge_x_swap (ge_sc (n * 2) a) (ge_sc (n * 2) b) y
      have cr := ge_cross (a := ge_sc (n * 2) b) (b := ge_sc (n * 2) a) h (by omega) (by omega) (by omega) (by omega)
      omega
    · have t := tele2 h
      have r1 := ge_x_swap x y (ge_sc (n * 2) a)
      have r2 := ge_x_swap x y (ge_sc (n * 2) b)
      have cr := ge_cross (a := ge_sc (n * 2) a) (b := ge_sc (n * 2) b) h (by omega) (by omega) (by omega) (by omega)
      omega
