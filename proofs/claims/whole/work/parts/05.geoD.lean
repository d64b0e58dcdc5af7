theorem ge_inS_sc {n : Int} (hn : 0 < n) {a p b x : ge_P} : ge_inS (ge_sc n a) (ge_sc n p) (ge_sc n b) (ge_sc n x) ↔ ge_inS a p b x := by
  have q := fun A => ge_sc_pos (a := A) hn
  have q0 : ∀ A : Int, 0 ≤ n * n * A ↔ 0 ≤ A := fun A => by
    have := (q A).2
    omega
  unfold ge_inS ge_in
  rw [ge_x_sc, ge_x_sc, ge_x_sc, ge_x_sc, ge_x_sc, ge_x_sc, ge_x_sc, (q _).1, (q _).2, q0, q0, q0, q0, q0, q0]
/-- on a corner's edge, or strictly on its side -/
theorem ge_in_edge {v b a : ge_P} {M : List ge_P} {w : ge_P} (hw : ge_off w (v :: b :: M ++ [a])) (hi : ge_inS a v b w) : (0 < ge_x a v b ∧ 0 < ge_x a v w ∧ 0 < ge_x v b w ∧ 0 ≤ ge_x b a w) ∨ (ge_x a v b < 0 ∧ ge_x a v w < 0 ∧ ge_x v b w < 0 ∧ ge_x b a w ≤ 0) := by
  obtain ⟨s1, s2, s3⟩ := ge_bary a v b w
  have hEd := ge_Ed_cons v b a M
  have m1 := hw (a, v) (by rw [hEd]; simp)
  have m2 := hw (v, b) (by rw [hEd]; simp)
  dsimp only at m1 m2
  rcases hi with ⟨h0, h1, h2, h3⟩ | ⟨h0, h1, h2, h3⟩
  · left
    refine ⟨h0, ?_, ?_, h3⟩
    · rcases (show 0 < ge_x a v w ∨ ge_x a v w = 0 by omega) with g | g
      · exact g
      · exact absurd ⟨ge_x v b w, ge_x b a w, ge_x a v b, 0, by omega, by omega, by omega, by omega, by omega, by omega, by grind, by grind⟩ m1
    · rcases (show 0 < ge_x v b w ∨ ge_x v b w = 0 by omega) with g | g
      · exact g
      · exact absurd ⟨ge_x b a w, ge_x a v w, ge_x a v b, 0, by omega, by omega, by omega, by omega, by omega, by omega, by grind, by grind⟩ m2
  · right
    have r1 := ge_x_swap v b w
    have r2 := ge_x_swap a v w
    have r3 := ge_x_swap b a w
    refine ⟨h0, ?_, ?_, by omega⟩
    · rcases (show ge_x a v w < 0 ∨ ge_x a v w = 0 by omega) with g | g
      · exact g
      · exact absurd ⟨- ge_x v b w, - ge_x b a w, - ge_x a v b, 0, by omega, by omega, by omega, by omega, by omega, by omega, by grind, by grind⟩ m1
    · rcases (show ge_x v b w < 0 ∨ ge_x v b w = 0 by omega) with g | g
      · exact g
      · exact absurd ⟨- ge_x b a w, - ge_x a v w, - ge_x a v b, 0, by omega, by omega, by omega, by omega, by omega, by omega, by grind, by grind⟩ m2
/-- what lies in an ear's triangle, its far side too, is within -/
theorem ge_in_W {v b a : ge_P} {M : List ge_P} (hP : ge_S (v :: b :: M ++ [a])) {D : Int} (hD : ge_Sg (v :: b :: M ++ [a]) D) (ht : ge_ss D (ge_x a v b)) (hem : ∀ u ∈ M, ¬ ge_inS a v b u) {w : ge_P} (hw : ge_off w (v :: b :: M ++ [a])) (hi : ge_inS a v b w) : ge_W w (v :: b :: M ++ [a]) ≠ 0 := by
  have hc := ge_in_edge hw hi
  by_cases h3 : ge_x b a w = 0
  · obtain ⟨s1, s2, s3⟩ := ge_bary a v b w
    have hEd := ge_Ed_cons v b a M
    by_cases hM : M = []
    · exfalso
      subst hM
      have m3 := hw (b, a) (by rw [hEd]; simp [ge_E])
      dsimp only at m3
      rcases hc with ⟨g0, g1, g2, -⟩ | ⟨g0, g1, g2, -⟩
      · exact m3 ⟨ge_x a v w, ge_x v b w, ge_x a v b, 0, by omega, by omega, by omega, by omega, by omega, by omega, by grind, by grind⟩
      · exact m3 ⟨- ge_x a v w, - ge_x v b w, - ge_x a v b, 0, by omega, by omega, by omega, by omega, by omega, by omega, by grind, by grind⟩
    · -- half the way to v
      let y : ge_P := (w.1 + v.1, w.2 + v.2)
      have aff : ∀ u z : ge_P, ge_x (ge_sc 2 u) (ge_sc 2 z) y = 2 * (ge_x u z w + ge_x u z v) := by
        intro u z; show ge_x (ge_sc 2 u) (ge_sc 2 z) (w.1 + v.1, w.2 + v.2) = _; unfold ge_x ge_sc; grind
      have z1 := ge_x_00 a v
      have z2 := ge_x_00 v b
      have d3 : ge_x b a v = ge_x a v b := by rw [ge_x_rot, ge_x_rot]
      have seg : ∀ e ∈ ge_Ed (v :: b :: M ++ [a]), ¬ ge_meet (ge_sc 2 e.1) (ge_sc 2 e.2) (ge_sc 2 w) y := by
        intro e he hm
        obtain ⟨i, j, k, l, hi, hj, hk, hl, h5, h6, h7, h8⟩ := hm
        have ey1 : y.1 = w.1 + v.1 := rfl
        have ey2 : y.2 = w.2 + v.2 := rfl
        rw [ey1] at h7
        rw [ey2] at h8
        simp only [ge_sc] at h7 h8
        have q : ∀ u z : ge_P, 2 * (i * ge_x u z e.1 + j * ge_x u z e.2) = (2 * k + l) * ge_x u z w + l * ge_x u z v := by
          intro u z
          have e0 : i = k + l - j := by omega
          subst e0
          unfold ge_x
          clear aff s1 s2 s3 hc d3 z1 z2
          grind
        have q1 := q a v
        have q2 := q v b
        have q3 := q b a
        rw [z1.2.1] at q1
        rw [z2.1] at q2
        rw [h3, d3] at q3
        simp only [Int.mul_zero, Int.add_zero, Int.zero_add] at q1 q2 q3
        have hkl : 0 < 2 * k + l := by omega
        rcases ge_mem_mid he with g | g | g
        · subst g
          dsimp only at q2
          rw [z2.1, z2.2.1] at q2
          simp only [Int.mul_zero, Int.add_zero] at q2
          rcases Int.mul_eq_zero.mp q2.symm with g | g
          · omega
          · rcases hc with hc | hc <;> omega
        · have f : i * ge_x b a e.1 + j * ge_x b a e.2 = 0 := by
            refine (ge_freeS hP hM hem g hi hj h5 ?_).1
            rcases hc with ⟨g0, g1, g2, -⟩ | ⟨g0, g1, g2, -⟩
            · left
              have n1 := Int.mul_pos hkl g1
              have n2 := Int.mul_pos hkl g2
              have n3 := Int.mul_nonneg hl (show 0 ≤ ge_x a v b by omega)
              exact ⟨g0, by omega, by omega, by omega⟩
            · right
              have n1 := Int.mul_pos hkl (show 0 < - ge_x a v w by omega)
              have n2 := Int.mul_pos hkl (show 0 < - ge_x v b w by omega)
              have n3 := Int.mul_nonneg hl (show 0 ≤ - ge_x a v b by omega)
              rw [Int.mul_neg] at n1 n2 n3
              exact ⟨g0, by omega, by omega, by omega⟩
          have l0 : l = 0 := by
            have : l * ge_x a v b = 0 := by omega
            rcases Int.mul_eq_zero.mp this with g | g
            · exact g
            · rcases hc with hc | hc <;> omega
          subst l0
          exact hw e he ⟨i, j, k, 0, hi, hj, hk, by omega, h5, by omega, by grind, by grind⟩
        · subst g
          dsimp only at q1
          rw [z1.1, z1.2.1] at q1
          simp only [Int.mul_zero, Int.add_zero] at q1
          rcases Int.mul_eq_zero.mp q1.symm with g | g
          · omega
          · rcases hc with hc | hc <;> omega
      have h2 : (0 : Int) < 2 := by omega
      have hW : ge_W w (v :: b :: M ++ [a]) = ge_W y ((v :: b :: M ++ [a]).map (ge_sc 2)) := by
        rw [← ge_W_sc h2 w]
        apply ge_J1
        intro e he
        rw [ge_Ed_map] at he
        obtain ⟨e0, he0, rfl⟩ := List.mem_map.mp he
        exact seg e0 he0
      have hoff : ge_off y ((v :: b :: M ++ [a]).map (ge_sc 2)) := by
        intro e he hm
        rw [ge_Ed_map] at he
        obtain ⟨e0, he0, rfl⟩ := List.mem_map.mp he
        obtain ⟨i, j, k, l, hi, hj, hk, hl, h5, h6, h7, h8⟩ := hm
        exact seg e0 he0 ⟨i, j, 0, k + l, hi, hj, by omega, by omega, h5, by omega, by dsimp only at h7 ⊢; rw [h7]; grind, by dsimp only at h8 ⊢; rw [h8]; grind⟩
      rw [hW]
      have e1 : (v :: b :: M ++ [a]).map (ge_sc 2) = ge_sc 2 v :: ge_sc 2 b :: M.map (ge_sc 2) ++ [ge_sc 2 a] := by simp
      have hP2 := ge_S_sc h2 hP
      have hD2 := ge_Sg_sc h2 hD
      rw [e1] at hP2 hD2 hoff ⊢
      refine ge_inX_W hP2 hD2 ?_ ?_ hoff ?_
      · rw [ge_x_sc]; unfold ge_ss at ht ⊢; omega
      · intro u hu
        obtain ⟨u0, hu0, rfl⟩ := List.mem_map.mp hu
        rw [ge_inS_sc h2]
        exact hem u0 hu0
      · unfold ge_inX
        rw [aff, aff, aff, ge_x_sc, z1.2.1, z2.1, h3, d3]
        rcases hc with hc | hc
        · left; omega
        · right; omega
  · refine ge_inX_W hP hD ht hem hw ?_
    unfold ge_inX
    rcases hc with hc | hc
    · left; omega
    · right; omega
def ge_ear (P : List ge_P) (D : Int) (v : ge_P) : Prop := ∃ a b, (a, v) ∈ ge_Ed P ∧ (v, b) ∈ ge_Ed P ∧ ge_ss D (ge_x a v b) ∧ ∀ u ∈ P, u ≠ a → u ≠ v → u ≠ b → ¬ ge_inS a v b u
def ge_E2 (P : List ge_P) (D : Int) : Prop := ∀ c d, (c, d) ∈ ge_Ed P → ∃ u, ge_ear P D u ∧ u ≠ c ∧ u ≠ d
/-- the lowest of all is in no triangle of the others -/
theorem ge_low_out {p a v b : ge_P} (ha : ge_lt p a) (hv : ge_lt p v) (hb : ge_lt p b) : ¬ ge_inS a v b p := by
  obtain ⟨s1, s2, s3⟩ := ge_bary a v b p
  have nn : ∀ A B C : Int, 0 ≤ A → 0 ≤ B → 0 ≤ C → 0 < A + B + C → A * (a.2 - p.2) + B * (v.2 - p.2) + C * (b.2 - p.2) = 0 → A * (a.1 - p.1) + B * (v.1 - p.1) + C * (b.1 - p.1) = 0 → False := by
    intro A B C hA hB hC hs e2 e1
    have la : p.2 ≤ a.2 := by rcases ha with h | h <;> omega
    have lv : p.2 ≤ v.2 := by rcases hv with h | h <;> omega
    have lb : p.2 ≤ b.2 := by rcases hb with h | h <;> omega
    have q1 := Int.mul_nonneg hA (show 0 ≤ a.2 - p.2 by omega)
    have q2 := Int.mul_nonneg hB (show 0 ≤ v.2 - p.2 by omega)
    have q3 := Int.mul_nonneg hC (show 0 ≤ b.2 - p.2 by omega)
    have one : ∀ (K : Int) (z : ge_P), 0 ≤ K → ge_lt p z → K * (z.2 - p.2) = 0 → 0 ≤ K * (z.1 - p.1) ∧ (0 < K → 0 < K * (z.1 - p.1)) := by
      intro K z hK hz h0
      rcases (show K = 0 ∨ 0 < K by omega) with g | g
      · subst g; simp
      · rcases Int.mul_eq_zero.mp h0 with h | h
        · omega
        · have : 0 < z.1 - p.1 := by rcases hz with h' | h' <;> omega
          have := Int.mul_pos g this
          exact ⟨by omega, fun _ => this⟩
    have o1 := one A a hA ha (by omega)
    have o2 := one B v hB hv (by omega)
    have o3 := one C b hC hb (by omega)
    rcases (show 0 < A ∨ 0 < B ∨ 0 < C by omega) with g | g | g
    · have := o1.2 g; omega
    · have := o2.2 g; omega
    · have := o3.2 g; omega
  intro h
  rcases h with ⟨h0, h1, h2, h3⟩ | ⟨h0, h1, h2, h3⟩
  · exact nn (ge_x v b p) (ge_x b a p) (ge_x a v p) h2 h3 h1 (by omega) s2 s3
  · have r1 := ge_x_swap v b p
    have r2 := ge_x_swap a v p
    have r3 := ge_x_swap b a p
    refine nn (ge_x b v p) (ge_x a b p) (ge_x v a p) h1 h3 h2 (by omega) ?_ ?_
    · rw [r1, r2, r3]; grind
    · rw [r1, r2, r3]; grind
theorem ge_ear_rot {L1 L2 : List ge_P} {D : Int} {v : ge_P} (h : ge_ear (L2 ++ L1) D v) : ge_ear (L1 ++ L2) D v := by
  obtain ⟨a, b, h1, h2, h3, h4⟩ := h
  exact ⟨a, b, (ge_Ed_rot L1 L2 _).mpr h1, (ge_Ed_rot L1 L2 _).mpr h2, h3, fun u hu => h4 u (by simp at hu ⊢; grind)⟩
theorem ge_E2_rot {L1 L2 : List ge_P} {D : Int} (h : ge_E2 (L2 ++ L1) D) : ge_E2 (L1 ++ L2) D := by
  intro c d hcd
  obtain ⟨u, h1, h2⟩ := h c d ((ge_Ed_rot L1 L2 _).mp hcd)
  exact ⟨u, ge_ear_rot h1, h2⟩
theorem ge_E2_two {P : List ge_P} {D : Int} {v1 v2 : ge_P} (h1 : ge_ear P D v1) (h2 : ge_ear P D v2) (hne : v1 ≠ v2) (n1 : (v1, v2) ∉ ge_Ed P) (n2 : (v2, v1) ∉ ge_Ed P) : ge_E2 P D := by
  intro c d hcd
  by_cases g : v1 ≠ c ∧ v1 ≠ d
  · exact ⟨v1, h1, g⟩
  · refine ⟨v2, h2, ?_, ?_⟩
    · rintro rfl
      have : v1 = d := by by_cases q : v1 = v2; · exact absurd q hne
                          · grind
      subst this
      exact n2 hcd
    · rintro rfl
      have : v1 = c := by by_cases q : v1 = v2; · exact absurd q hne
                          · grind
      subst this
      exact n1 hcd
/-- corners of one part beside a chord are outside of the other part -/
theorem ge_chain0 {P1 : List ge_P} : ∀ (l : List ge_P) (b : ge_P), ge_W b P1 = 0 → (∀ e ∈ ge_E (b :: l), ∀ f ∈ ge_Ed P1, ¬ ge_meet f.1 f.2 e.1 e.2) → ∀ w ∈ b :: l, ge_W w P1 = 0
  | [], b, h0, _, w, hw => by simp at hw; subst hw; exact h0
  | c :: l, b, h0, hE, w, hw => by
    rcases List.mem_cons.mp hw with h | h
    · subst h; exact h0
    · have h1 : ge_W c P1 = 0 := by
        rw [← h0]
        symm
        apply ge_J1
        intro f hf
        exact hE (b, c) (by simp [ge_E]) f hf
      exact ge_chain0 l c h1 (fun e he => hE e (by simp [ge_E, he])) w h
/-- an ear of a part, away from the chord, is an ear of the whole -/
theorem ge_ear_part {P P1 : List ge_P} (hP1 : ge_S P1) {D D1 : Int} (hD1 : ge_Sg P1 D1) (hss : ge_ss D D1) {p q u : ge_P} (hEd : ∀ e ∈ ge_Ed P1, e.1 ≠ p ∨ e.2 ≠ q → e.1 ≠ q ∨ e.2 ≠ p → e ∈ ge_Ed P) (hu : ge_ear P1 D1 u) (hup : u ≠ p) (huq : u ≠ q)
    (hout : ∀ w ∈ P, w ∉ P1 → ge_off w P1 ∧ ge_W w P1 = 0) : ge_ear P D u := by
  obtain ⟨a, b, h1, h2, h3, h4⟩ := hu
  refine ⟨a, b, hEd _ h1 (.inr huq) (.inr hup), hEd _ h2 (.inl hup) (.inl huq), ge_ss_trans hss h3, ?_⟩
  intro w hw n1 n2 n3 hin
  by_cases hw1 : w ∈ P1
  · exact h4 w hw1 n1 n2 n3 hin
  · obtain ⟨o1, o2⟩ := hout w hw hw1
    obtain ⟨L1, L2, M, e1, e2⟩ := ge_read hP1 h1 h2
    subst e1
    have hR := ge_S_rot hP1
    have hDR := ge_Sg_rot hP1 hD1
    have hoR := ge_off_rot o1
    rw [e2] at hR hDR hoR
    have hWR : ge_W w (u :: b :: M ++ [a]) = 0 := by rw [← e2, ge_W_rot, o2]
    refine ge_in_W hR hDR h3 ?_ hoR hin hWR
    intro z hz
    have hn := hR.1
    have hz1 : z ∈ L2 ++ L1 := by rw [e2]; simp [hz]
    exact h4 z (by simp at hz1 ⊢; grind) (by rintro rfl; simp at hn; grind) (by rintro rfl; simp at hn; grind) (by rintro rfl; simp at hn; grind)
theorem ge_ears : ∀ (n : Nat) (P : List ge_P), P.length ≤ n → ge_S P → ∀ D, ge_Sg P D → ge_E2 P D
  | 0, P, hl, hP, _, _ => by have := hP.2.1; omega
  | n + 1, P, hl, hP, D, hD => by
    obtain ⟨L1, L2, p, b, a, M, h1, h2, hlow, h4⟩ := id hD
    subst h1
    have hR := ge_S_rot hP
    apply ge_E2_rot
    rw [h2] at hR ⊢
    have hlen : (p :: b :: M ++ [a]).length ≤ n + 1 := by rw [← h2]; simp at hl ⊢; omega
    have hDne := ge_turns hR hlow
    have hn := hR.1
    have hEd := ge_Ed_cons p b a M
    have hDD : ge_ss D (ge_x a p b) := by unfold ge_ss; omega
    by_cases hM : M = []
    · subst hM
      have ed : ge_Ed (p :: b :: [] ++ [a]) = [(p, b), (b, a), (a, p)] := by rw [hEd]; simp [ge_E]
      have hpb : p ≠ b := by rintro rfl; simp at hn
      have hpa : p ≠ a := by rintro rfl; simp at hn
      have hba : b ≠ a := by rintro rfl; simp at hn
      have r1 : ge_x p b a = ge_x a p b := (ge_x_rot a p b).symm
      have r2 : ge_x b a p = ge_x a p b := by rw [ge_x_rot, ge_x_rot]
      have eP : ge_ear (p :: b :: [] ++ [a]) D p := ⟨a, b, by rw [ed]; simp, by rw [ed]; simp, hDD, fun u hu => by simp at hu; grind⟩
      have eB : ge_ear (p :: b :: [] ++ [a]) D b := ⟨p, a, by rw [ed]; simp, by rw [ed]; simp, by rw [r1]; exact hDD, fun u hu => by simp at hu; grind⟩
      have eA : ge_ear (p :: b :: [] ++ [a]) D a := ⟨b, p, by rw [ed]; simp, by rw [ed]; simp, by rw [r2]; exact hDD, fun u hu => by simp at hu; grind⟩
      intro c d hcd
      rw [ed] at hcd
      simp only [List.mem_cons, List.not_mem_nil, or_false, Prod.mk.injEq] at hcd
      rcases hcd with ⟨rfl, rfl⟩ | ⟨rfl, rfl⟩ | ⟨rfl, rfl⟩
      · exact ⟨a, eA, hpa.symm, hba.symm⟩
      · exact ⟨p, eP, hpb, hpa⟩
      · exact ⟨b, eB, hba, hpb.symm⟩
    by_cases hem : ∀ v ∈ M, ¬ ge_inS a p b v
    · have hS' := ge_S_cut hR hM hDne hem
      obtain ⟨D', hD'⟩ := ge_Sg_ex hS'
      have hSgR : ge_Sg (p :: b :: M ++ [a]) D := ⟨[], _, p, b, a, M, rfl, by simp, hlow, h4⟩
      have hss := ge_sense hR hM hSgR hDD hem hD'
      have hI := ge_ears n _ (by simp at hlen ⊢; omega) hS' D' hD'
      obtain ⟨u, hu, hua, hub⟩ := hI a b (by rw [ge_Ed_line]; simp)
      have eP : ge_ear (p :: b :: M ++ [a]) D p := by
        refine ⟨a, b, by rw [hEd]; simp, by rw [hEd]; simp, hDD, fun w hw n1 n2 n3 => hem w ?_⟩
        simp at hw; grind
      obtain ⟨a', b', u1, u2, u3, u4⟩ := hu
      have mid1 : (a', u) ∈ ge_E (b :: M ++ [a]) := by
        rw [ge_Ed_line, List.mem_append, List.mem_singleton] at u1
        rcases u1 with h | h
        · exact h
        · simp at h; exact absurd h.2 hub
      have mid2 : (u, b') ∈ ge_E (b :: M ++ [a]) := by
        rw [ge_Ed_line, List.mem_append, List.mem_singleton] at u2
        rcases u2 with h | h
        · exact h
        · simp at h; exact absurd h.1 hua
      have eU : ge_ear (p :: b :: M ++ [a]) D u := by
        refine ⟨a', b', ge_S_mid hR mid1, ge_S_mid hR mid2, ge_ss_trans hss u3, fun w hw n1 n2 n3 => ?_⟩
        by_cases hwp : w = p
        · subst hwp
          exact ge_low_out (hlow _ (ge_E_mem mid1).1) (hlow _ (ge_E_mem mid1).2) (hlow _ (ge_E_mem mid2).2)
        · exact u4 w (by simp at hw ⊢; grind) n1 n2 n3
      have hup : p ≠ u := by
        have := (ge_E_mem mid2).1
        rintro rfl; simp at this hn; grind
      refine ge_E2_two eP eU hup ?_ ?_
      · intro h
        have := ge_succ_uniq hR h (f := (p, b)) (by rw [hEd]; simp) rfl
        simp at this; exact hub this
      · intro h
        have := ge_pred_uniq hR h (f := (a, p)) (by rw [hEd]; simp) rfl
        simp at this; exact hua this
    · have hv : ∃ v ∈ M, ge_inS a p b v := by
        simp only [Classical.not_forall, Classical.not_not] at hem
        obtain ⟨v, hv, h⟩ := hem
        exact ⟨v, hv, h⟩
      obtain ⟨q, hq, -, s1, s2, hc⟩ := ge_chordS hR hv
      obtain ⟨M2, M1, rfl⟩ := List.append_of_mem hq
      obtain ⟨hS2, hS1⟩ := ge_S_parts hR hc
      have low2 : ∀ v ∈ b :: M2 ++ [q], ge_lt p v := fun v hv => hlow v (by simp at hv ⊢; grind)
      have low1 : ∀ v ∈ q :: M1 ++ [a], ge_lt p v := fun v hv => hlow v (by simp at hv ⊢; grind)
      have g2 : ge_Sg (p :: b :: M2 ++ [q]) (ge_x p b q) := ⟨[], _, p, b, q, M2, rfl, by simp, low2, by rw [ge_x_rot q p b]⟩
      have g1 : ge_Sg (p :: q :: M1 ++ [a]) (ge_x a p q) := ⟨[], _, p, q, a, M1, rfl, by simp, low1, rfl⟩
      have i2 := ge_ears n _ (by simp at hlen ⊢; omega) hS2 _ g2
      have i1 := ge_ears n _ (by simp at hlen ⊢; omega) hS1 _ g1
      have hEM := ge_E_app (b :: M2) (M1 ++ [a]) q
      have e0 : b :: (M2 ++ q :: M1) ++ [a] = (b :: M2) ++ q :: (M1 ++ [a]) := by simp
      rw [e0, hEM] at hEd
      have in2 : ∀ e ∈ ge_E (b :: M2 ++ [q]), e ∈ ge_Ed (p :: b :: (M2 ++ q :: M1) ++ [a]) := by
        intro e he; rw [hEd]; simp only [List.mem_cons, List.mem_append]; exact .inr (.inl (.inl he))
      have in1 : ∀ e ∈ ge_E (q :: M1 ++ [a]), e ∈ ge_Ed (p :: b :: (M2 ++ q :: M1) ++ [a]) := by
        intro e he; rw [hEd]; simp only [List.mem_cons, List.mem_append]; exact .inr (.inl (.inr he))
      have hpb : (p, b) ∈ ge_Ed (p :: b :: (M2 ++ q :: M1) ++ [a]) := by rw [hEd]; simp
      have hap : (a, p) ∈ ge_Ed (p :: b :: (M2 ++ q :: M1) ++ [a]) := by rw [hEd]; simp
      have sub2 : ∀ e ∈ ge_Ed (p :: b :: M2 ++ [q]), e ∈ ge_Ed (p :: b :: (M2 ++ q :: M1) ++ [a]) ∨ e = (q, p) := by
        intro e he
        rcases ge_mem_mid he with g | g | g
        · subst g; exact .inl hpb
        · exact .inl (in2 e g)
        · exact .inr g
      have sub1 : ∀ e ∈ ge_Ed (p :: q :: M1 ++ [a]), e ∈ ge_Ed (p :: b :: (M2 ++ q :: M1) ++ [a]) ∨ e = (p, q) := by
        intro e he
        rcases ge_mem_mid he with g | g | g
        · exact .inr g
        · exact .inl (in1 e g)
        · subst g; exact .inl hap
      -- two edges of the whole with no end in common do not meet
      have apart : ∀ e ∈ ge_Ed (p :: b :: (M2 ++ q :: M1) ++ [a]), ∀ f ∈ ge_Ed (p :: b :: (M2 ++ q :: M1) ++ [a]), e.2 ≠ f.1 → e.1 ≠ f.2 → e ≠ f → ¬ ge_meet f.1 f.2 e.1 e.2 := by
        intro e he f hf n1 n2 n3 hm
        obtain ⟨i, j, k, l, hw⟩ := hm
        rcases hR.2.2 f hf e he (Ne.symm n3) i j k l hw with ⟨-, -, g⟩ | ⟨-, -, g⟩
        · exact n2 g.symm
        · exact n1 g.symm
      have apartC : ∀ e ∈ ge_Ed (p :: b :: (M2 ++ q :: M1) ++ [a]), e.1 ≠ p → e.2 ≠ p → e.1 ≠ q → e.2 ≠ q → ¬ ge_meet p q e.1 e.2 := by
        intro e he n1 n2 n3 n4 hm
        obtain ⟨i, j, k, l, hw⟩ := hm
        rcases hc e he i j k l hw with ⟨-, ⟨g, -⟩ | ⟨g, -⟩⟩ | ⟨-, ⟨g, -⟩ | ⟨g, -⟩⟩
        · exact n3 g.symm
        · exact n4 g.symm
        · exact n1 g.symm
        · exact n2 g.symm
      have offw : ∀ w ∈ p :: b :: (M2 ++ q :: M1) ++ [a], w ≠ p → w ≠ q → ∀ f : ge_P × ge_P, (f ∈ ge_Ed (p :: b :: (M2 ++ q :: M1) ++ [a]) → w ≠ f.1 → w ≠ f.2 → ¬ ge_meet f.1 f.2 w w) ∧ ¬ ge_meet p q w w := by
        intro w hw n1 n2 f
        constructor
        · intro hf m1 m2 hm
          obtain ⟨i, j, k, l, hwt⟩ := hm
          rcases ge_V hR hw hf (ge_wt_symm hwt) with ⟨g, -⟩ | ⟨g, -⟩
          · exact m1 g
          · exact m2 g
        · intro hm
          obtain ⟨w', hw'⟩ := ge_Ed_succ hw
          obtain ⟨i, j, k, l, hi, hj, hk, hl, h5, h6, h7, h8⟩ := hm
          have := hc _ hw' i j (k + l) 0 ⟨hi, hj, by omega, by omega, h5, by omega, by dsimp only; grind, by dsimp only; grind⟩
          rcases this with ⟨hi0, ⟨g, -⟩ | ⟨g, h0⟩⟩ | ⟨hj0, ⟨g, -⟩ | ⟨g, h0⟩⟩
          · exact n2 g.symm
          · omega
          · exact n1 g.symm
          · omega
      have hn' := hn
      -- the corners of the second part are outside of the first
      have out1 : ∀ w ∈ b :: M2, ge_off w (p :: q :: M1 ++ [a]) ∧ ge_W w (p :: q :: M1 ++ [a]) = 0 := by
        have nin : ∀ w ∈ b :: M2, w ∉ p :: q :: M1 ++ [a] := by
          intro w hw h; simp at hn hw h; grind
        intro w hw
        have hwn := nin w hw
        have hwP : w ∈ p :: b :: (M2 ++ q :: M1) ++ [a] := by simp at hw ⊢; grind
        have wp : w ≠ p := by rintro rfl; simp at hwn
        have wq : w ≠ q := by rintro rfl; simp at hwn
        constructor
        · intro f hf
          have hfm := ge_Ed_mem hf
          rcases sub1 f hf with g | g
          · exact (offw w hwP wp wq f).1 g (by rintro rfl; exact hwn hfm.1) (by rintro rfl; exact hwn hfm.2)
          · subst g; exact (offw w hwP wp wq (p, q)).2
        · refine ge_chain0 M2 b ?_ ?_ w hw
          · refine ge_KK low1 (hlow b (by simp)) ?_ ?_
            · have r : ge_x p b a = ge_x a p b := (ge_x_rot a p b).symm
              unfold ge_ss at s2; rw [r]; omega
            · intro e he
              have hem2 := ge_E_mem he
              refine apart (p, b) hpb e (in1 e he) ?_ ?_ ?_
              · intro h; exact nin b (by simp) (by rw [show b = e.1 from h]; exact List.mem_cons_of_mem _ hem2.1)
              · intro h
                have : p ∈ q :: M1 ++ [a] := by rw [show p = e.2 from h]; exact hem2.2
                simp at this hn; grind
              · intro h
                have : p ∈ q :: M1 ++ [a] := by rw [show p = e.1 from by rw [← h]]; exact hem2.1
                simp at this hn; grind
          · intro e he f hf
            have hem2 := ge_E_mem he
            have he2 : e ∈ ge_Ed (p :: b :: (M2 ++ q :: M1) ++ [a]) := by
              apply in2
              have := ge_E_app (b :: M2) [] q
              cases M2 with
              | nil => simp [ge_E] at he
              | cons m M2 =>
                rcases List.eq_nil_or_concat (m :: M2) with h | ⟨K, z, h⟩
                · simp at h
                · rw [List.concat_eq_append] at h
                  rw [h] at he ⊢
                  have e9 := ge_E_app (b :: K) [q] z
                  have e8 : b :: (K ++ [z]) ++ [q] = (b :: K) ++ z :: [q] := by simp
                  rw [e8, e9]
                  apply List.mem_append_left
                  simpa using he
            have n1 := nin e.1 hem2.1
            have n2 := nin e.2 hem2.2
            have hfm := ge_Ed_mem hf
            rcases sub1 f hf with g | g
            · refine apart e he2 f g ?_ ?_ ?_
              · intro h; rw [h] at n2; exact n2 hfm.1
              · intro h; rw [h] at n1; exact n1 hfm.2
              · intro h; rw [h] at n1; exact n1 hfm.1
            · subst g
              refine apartC e he2 ?_ ?_ ?_ ?_
              · intro h; rw [h] at n1; simp at n1
              · intro h; rw [h] at n2; simp at n2
              · intro h; rw [h] at n1; simp at n1
              · intro h; rw [h] at n2; simp at n2
      have out2 : ∀ w ∈ M1 ++ [a], ge_off w (p :: b :: M2 ++ [q]) ∧ ge_W w (p :: b :: M2 ++ [q]) = 0 := by
        have nin : ∀ w ∈ M1 ++ [a], w ∉ p :: b :: M2 ++ [q] := by
          intro w hw h; simp at hn hw h; grind
        intro w hw
        have hwn := nin w hw
        have hwP : w ∈ p :: b :: (M2 ++ q :: M1) ++ [a] := by simp at hw ⊢; grind
        have wp : w ≠ p := by rintro rfl; simp at hwn
        have wq : w ≠ q := by rintro rfl; simp at hwn
        constructor
        · intro f hf
          have hfm := ge_Ed_mem hf
          rcases sub2 f hf with g | g
          · exact (offw w hwP wp wq f).1 g (by rintro rfl; exact hwn hfm.1) (by rintro rfl; exact hwn hfm.2)
          · subst g; exact fun hm => (offw w hwP wp wq (p, q)).2 (ge_meet_swap hm)
        · -- from a back
          have hrev : (M1 ++ [a]).reverse = a :: M1.reverse := by simp
          refine ge_chain0 M1.reverse a ?_ ?_ w (by rw [← hrev]; exact List.mem_reverse.mpr hw)
          · refine ge_KK low2 (hlow a (by simp)) ?_ ?_
            · have r1 : ge_x p a b = - ge_x a p b := by rw [ge_x_swap]
              have r2 : ge_x p a q = - ge_x a p q := by rw [ge_x_swap]
              unfold ge_ss at s1; rw [r1, r2]; omega
            · intro e he hm
              have hem2 := ge_E_mem he
              refine apart (a, p) hap e (in2 e he) ?_ ?_ ?_ (ge_meet_swap2 hm)
              · intro h
                have : p ∈ b :: M2 ++ [q] := by rw [show p = e.1 from h]; exact hem2.1
                simp at this hn; grind
              · intro h; exact nin a (by simp) (by rw [show a = e.2 from h]; exact List.mem_cons_of_mem _ hem2.2)
              · intro h
                have : p ∈ b :: M2 ++ [q] := by rw [show p = e.2 from by rw [← h]]; exact hem2.2
                simp at this hn; grind
          · intro e he f hf hmt
            have hem2 := ge_E_mem he
            have n1 := nin e.1 (by have := hem2.1; rw [← hrev] at this; exact List.mem_reverse.mp this)
            have n2 := nin e.2 (by have := hem2.2; rw [← hrev] at this; exact List.mem_reverse.mp this)
            have he2 : (e.2, e.1) ∈ ge_Ed (p :: b :: (M2 ++ q :: M1) ++ [a]) := by
              apply in1
              have hr : ∀ l : List ge_P, ∀ x y, (x, y) ∈ ge_E l → (y, x) ∈ ge_E l.reverse := by
                intro l
                induction l with
                | nil => intro x y h; simp [ge_E] at h
                | cons c l ih =>
                  intro x y h
                  cases l with
                  | nil => simp [ge_E] at h
                  | cons d l =>
                    have e9 := ge_E_app l.reverse [c] d
                    have e8 : (c :: d :: l).reverse = l.reverse ++ d :: [c] := by simp
                    rw [e8, e9]
                    simp only [ge_E, List.mem_cons, Prod.mk.injEq] at h
                    rcases h with ⟨rfl, rfl⟩ | h
                    · apply List.mem_append_right; simp [ge_E]
                    · apply List.mem_append_left
                      have := ih x y h
                      simpa using this
              have h9 := hr _ _ _ he
              simp only [List.reverse_cons, List.reverse_reverse] at h9
              cases hM1 : M1 with
              | nil => rw [hM1] at h9; simp [ge_E] at h9
              | cons m M1' => rw [hM1] at h9; simp [ge_E] at h9 ⊢; exact .inr h9
            have hfm := ge_Ed_mem hf
            rcases sub2 f hf with g | g
            · refine apart (e.2, e.1) he2 f g ?_ ?_ ?_ (ge_meet_swap2 hmt)
              · intro h; exact n1 (by rw [show e.1 = f.1 from h]; exact hfm.1)
              · intro h; exact n2 (by rw [show e.2 = f.2 from h]; exact hfm.2)
              · intro h; exact n1 (by rw [show e.1 = f.2 from by rw [← h]]; exact hfm.2)
            · subst g
              refine apartC (e.2, e.1) he2 ?_ ?_ ?_ ?_ (ge_meet_swap (ge_meet_swap2 hmt))
              · intro h; exact n2 (by rw [show e.2 = p from h]; simp)
              · intro h; exact n1 (by rw [show e.1 = p from h]; simp)
              · intro h; exact n2 (by rw [show e.2 = q from h]; simp)
              · intro h; exact n1 (by rw [show e.1 = q from h]; simp)
      obtain ⟨u1, ear1, u1p, u1q⟩ := i1 p q (by rw [ge_Ed_cons]; simp)
      obtain ⟨u2, ear2, u2q, u2p⟩ := i2 q p (by rw [ge_Ed_cons]; simp)
      have m1 : u1 ∈ M1 ++ [a] := by
        obtain ⟨x, y, -, h, -⟩ := ear1
        have := (ge_Ed_mem h).1
        simp at this ⊢; grind
      have m2 : u2 ∈ b :: M2 := by
        obtain ⟨x, y, -, h, -⟩ := ear2
        have := (ge_Ed_mem h).1
        simp at this ⊢; grind
      have E1 : ge_ear (p :: b :: (M2 ++ q :: M1) ++ [a]) D u1 := by
        refine ge_ear_part (p := p) (q := q) hS1 g1 (ge_ss_trans hDD s1) ?_ ear1 u1p u1q ?_
        · intro e he k1 k2
          rcases sub1 e he with g | g
          · exact g
          · subst g; dsimp only at k1; grind
        · intro w hw hw1
          exact out1 w (by simp at hw hw1 ⊢; grind)
      have E2 : ge_ear (p :: b :: (M2 ++ q :: M1) ++ [a]) D u2 := by
        refine ge_ear_part (p := p) (q := q) hS2 g2 (ge_ss_trans hDD s2) ?_ ear2 u2p u2q ?_
        · intro e he k1 k2
          rcases sub2 e he with g | g
          · exact g
          · subst g; dsimp only at k2; grind
        · intro w hw hw1
          exact out2 w (by simp at hw hw1 ⊢; grind)
      have cross : ∀ x y, (x, y) ∈ ge_Ed (p :: b :: (M2 ++ q :: M1) ++ [a]) → ¬ ((x ∈ M1 ++ [a] ∧ y ∈ b :: M2) ∨ (x ∈ b :: M2 ∧ y ∈ M1 ++ [a])) := by
        intro x y hxy h
        rw [hEd] at hxy
        simp only [List.mem_cons, List.mem_append, List.not_mem_nil, or_false, Prod.mk.injEq] at hxy
        rcases hxy with ⟨rfl, rfl⟩ | (g | g) | ⟨rfl, rfl⟩
        · simp at h hn; grind
        · have := ge_E_mem (l := b :: M2 ++ [q]) (by simpa using g)
          simp at h hn this; grind
        · have := ge_E_mem (l := q :: (M1 ++ [a])) (by simpa using g)
          simp at h hn this; grind
        · simp at h hn; grind
      refine ge_E2_two E1 E2 ?_ ?_ ?_
      · rintro rfl; simp at m1 m2 hn; grind
      · intro h; exact cross _ _ h (.inl ⟨m1, m2⟩)
      · intro h; exact cross _ _ h (.inr ⟨m2, m1⟩)
/-! the winding is 0 or one way round, and the area's sign is the sense -/
def ge_BW (P : List ge_P) (D : Int) : Prop := ∀ x, ge_off x P → (0 < D → -1 ≤ ge_W x P ∧ ge_W x P ≤ 0) ∧ (D < 0 → 0 ≤ ge_W x P ∧ ge_W x P ≤ 1)
theorem ge_an_ear {P : List ge_P} (hP : ge_S P) {D : Int} (hD : ge_Sg P D) : ∃ (L1 L2 : List ge_P) (v b a : ge_P) (M : List ge_P), P = L1 ++ L2 ∧ L2 ++ L1 = v :: b :: M ++ [a] ∧ ge_ss D (ge_x a v b) ∧ ∀ u ∈ M, ¬ ge_inS a v b u := by
  obtain ⟨p, hp⟩ : ∃ p, p ∈ P := by
    cases P with
    | nil => have := hP.2.1; simp at this
    | cons p l => exact ⟨p, by simp⟩
  obtain ⟨q, hpq⟩ := ge_Ed_succ hp
  obtain ⟨v, ⟨a, b, h1, h2, h3, h4⟩, -⟩ := ge_ears _ P (Nat.le_refl _) hP D hD p q hpq
  obtain ⟨L1, L2, M, e1, e2⟩ := ge_read hP h1 h2
  refine ⟨L1, L2, v, b, a, M, e1, e2, h3, ?_⟩
  have hR := ge_S_rot (l1 := L1) (l2 := L2) (by rw [← e1]; exact hP)
  rw [e2] at hR
  have hn := hR.1
  intro z hz
  have hz1 : z ∈ L2 ++ L1 := by rw [e2]; simp [hz]
  exact h4 z (by rw [e1]; simp at hz1 ⊢; grind) (by rintro rfl; simp at hn; grind) (by rintro rfl; simp at hn; grind) (by rintro rfl; simp at hn; grind)
theorem ge_off_v {v b a : ge_P} {M : List ge_P} (hP : ge_S (v :: b :: M ++ [a])) (ht : ge_x a v b ≠ 0) : ge_off v (b :: M ++ [a]) := by
  intro e he hm
  have hn := hP.1
  rw [ge_Ed_line, List.mem_append, List.mem_singleton] at he
  obtain ⟨i, j, k, l, hw⟩ := hm
  rcases he with g | g
  · have hme := ge_E_mem g
    rcases ge_V hP (by simp) (ge_S_mid hP g) (ge_wt_symm hw) with ⟨q, -⟩ | ⟨q, -⟩
    · have h1 := hme.1; rw [← q] at h1; simp at h1 hn; grind
    · have h1 := hme.2; rw [← q] at h1; simp at h1 hn; grind
  · subst g
    have hpos : 0 < k + l := by obtain ⟨-, -, -, -, h5, h6, -⟩ := hw; omega
    have a1 := ge_aff hw b a
    have z := ge_x_00 b a
    dsimp only at a1
    rw [z.1, z.2.1] at a1
    have d3 : ge_x b a v = ge_x a v b := by rw [ge_x_rot, ge_x_rot]
    have b1 : (k + l) * ge_x b a v = 0 := by rw [Int.add_mul]; simpa using a1
    rcases Int.mul_eq_zero.mp b1 with g | g <;> omega
/-- from a place in the empty triangle to its corner -/
theorem ge_to_v {v b a : ge_P} {M : List ge_P} (hP : ge_S (v :: b :: M ++ [a])) (hM : M ≠ []) (hem : ∀ u ∈ M, ¬ ge_inS a v b u) {y : ge_P} (hy : ge_inX a v b y) : ge_W y (b :: M ++ [a]) = ge_W v (b :: M ++ [a]) := by
  apply ge_J1
  intro e he hm
  rw [ge_Ed_line, List.mem_append, List.mem_singleton] at he
  obtain ⟨i, j, k, l, hw⟩ := hm
  obtain ⟨hi, hj, hk, hl, h5, h6, -⟩ := id hw
  have z1 := ge_x_00 a v
  have z2 := ge_x_00 v b
  have z3 := ge_x_00 b a
  have d3 : ge_x b a v = ge_x a v b := by rw [ge_x_rot, ge_x_rot]
  have hw' := ge_wt_symm hw
  have a1 := ge_aff hw' a v
  have a2 := ge_aff hw' v b
  have a3 := ge_aff hw' b a
  rw [z1.2.1] at a1
  rw [z2.1] at a2
  rw [d3] at a3
  simp only [Int.mul_zero, Int.add_zero] at a1 a2
  have p3 : 0 < k + l := by omega
  rcases hy with ⟨g0, g1, g2, g3⟩ | ⟨g0, g1, g2, g3⟩
  · have n1 := Int.mul_nonneg hk (show 0 ≤ ge_x a v y by omega)
    have n2 := Int.mul_nonneg hk (show 0 ≤ ge_x v b y by omega)
    have n3 : 0 < k * ge_x b a y + l * ge_x a v b := by
      have m1 := Int.mul_nonneg hk (show 0 ≤ ge_x b a y by omega)
      have m2 := Int.mul_nonneg hl (show 0 ≤ ge_x a v b by omega)
      rcases (show 0 < k ∨ 0 < l by omega) with h | h
      · have := Int.mul_pos h g3; omega
      · have := Int.mul_pos h g0; omega
    rcases he with g | g
    · have := (ge_freeS hP hM hem g hi hj h5 (.inl ⟨g0, by omega, by omega, by omega⟩)).1
      omega
    · subst g
      dsimp only at a3
      rw [z3.1, z3.2.1] at a3
      simp at a3
      omega
  · have n1 := Int.mul_nonneg hk (show 0 ≤ - ge_x a v y by omega)
    have n2 := Int.mul_nonneg hk (show 0 ≤ - ge_x v b y by omega)
    rw [Int.mul_neg] at n1 n2
    have n3 : k * ge_x b a y + l * ge_x a v b < 0 := by
      have m1 := Int.mul_nonneg hk (show 0 ≤ - ge_x b a y by omega)
      have m2 := Int.mul_nonneg hl (show 0 ≤ - ge_x a v b by omega)
      rw [Int.mul_neg] at m1 m2
      rcases (show 0 < k ∨ 0 < l by omega) with h | h
      · have := Int.mul_pos h (show 0 < - ge_x b a y by omega); rw [Int.mul_neg] at this; omega
      · have := Int.mul_pos h (show 0 < - ge_x a v b by omega); rw [Int.mul_neg] at this; omega
    rcases he with g | g
    · have := (ge_freeS hP hM hem g hi hj h5 (.inr ⟨g0, by omega, by omega, by omega⟩)).1
      omega
    · subst g
      dsimp only at a3
      rw [z3.1, z3.2.1] at a3
      simp at a3
      omega
theorem ge_TW_out {x a p b : ge_P} (h : ¬ ge_inS a p b x) (ht : ge_x a p b ≠ 0) : ge_TW x a p b = 0 := by
  rcases (show 0 < ge_x a p b ∨ ge_x a p b < 0 by omega) with g | g
  · apply (ge_tri g).1
    apply Classical.byContradiction
    intro hc
    exact h (.inl ⟨g, by unfold ge_in; omega⟩)
  · have e : ge_x b p a = - ge_x a p b := by unfold ge_x; grind
    have := (ge_tri (x := x) (a := b) (b := p) (c := a) (by omega)).1 (by
      apply Classical.byContradiction
      intro hc
      exact h (.inr ⟨g, by unfold ge_in; omega⟩))
    rw [ge_TW_swap] at this
    omega
theorem ge_B : ∀ (n : Nat) (P : List ge_P), P.length ≤ n → ge_S P → ∀ D, ge_Sg P D → ge_BW P D
  | 0, P, hl, hP, _, _ => by have := hP.2.1; omega
  | n + 1, P, hl, hP, D, hD => by
    obtain ⟨L1, L2, v, b, a, M, h1, h2, ht, hem⟩ := ge_an_ear hP hD
    subst h1
    have hR := ge_S_rot hP
    have hDR := ge_Sg_rot hP hD
    rw [h2] at hR hDR
    have hlen : (v :: b :: M ++ [a]).length ≤ n + 1 := by rw [← h2]; simp at hl ⊢; omega
    have htne : ge_x a v b ≠ 0 := by unfold ge_ss at ht; omega
    intro x hx
    have hx' := ge_off_rot hx
    rw [h2] at hx'
    rw [ge_W_rot, h2]
    by_cases hM : M = []
    · subst hM
      have e2 : ge_W x (b :: [] ++ [a]) = 0 := by
        have := ge_w_swap x a b
        simp [ge_W, ge_cl, ge_C]; omega
      rw [ge_W_cut, e2]
      constructor
      · intro g
        have t := (ge_tri (x := x) (a := a) (b := v) (c := b) (by unfold ge_ss at ht; omega)).2.2
        omega
      · intro g
        have e : ge_x b v a = - ge_x a v b := by unfold ge_x; grind
        have t := (ge_tri (x := x) (a := b) (b := v) (c := a) (by unfold ge_ss at ht; omega)).2.2
        rw [ge_TW_swap] at t
        omega
    · have hS' := ge_S_cut hR hM htne hem
      obtain ⟨D', hD'⟩ := ge_Sg_ex hS'
      have hss := ge_sense hR hM hDR ht hem hD'
      have hI : ∀ m : Int, 0 < m → ge_BW ((b :: M ++ [a]).map (ge_sc m)) (m * m * D') := fun m hm => ge_B n _ (by simp at hlen ⊢; omega) (ge_S_sc hm hS') _ (ge_Sg_sc hm hD')
      have hI0 : ge_BW (b :: M ++ [a]) D' := ge_B n _ (by simp at hlen ⊢; omega) hS' _ hD'
      -- the corner that is cut off is outside of the rest
      have hv0 : ge_W v (b :: M ++ [a]) = 0 := by
        have iv := hI0 v (ge_off_v hR htne)
        obtain ⟨m, y, hm, hoff, o1, o2⟩ := ge_over htne (ge_free2 hR hM htne hem)
        have iy := hI m hm y hoff
        rw [(ge_sc_pos hm).1, (ge_sc_pos hm).2] at iy
        unfold ge_ss at ht hss
        rcases (show 0 < D ∨ D < 0 by omega) with g | g
        · have := o1 (by omega)
          have := iy.1 (by omega)
          have := iv.1 (by omega)
          omega
        · have := o2 (by omega)
          have := iy.2 (by omega)
          have := iv.2 (by omega)
          omega
      have hab : a ≠ b := by have := hR.1; rintro rfl; simp at this
      obtain ⟨m, y, hm, hy, hWy, hny⟩ := ge_shift hx' (u := a) (w := b) hab
      rw [← hWy]
      have hsub : ∀ e ∈ ge_Ed (b :: M ++ [a]), e ∈ ge_Ed (v :: b :: M ++ [a]) ∨ e = (a, b) ∨ e = (b, a) := by
        intro e he
        rw [ge_Ed_line, List.mem_append, List.mem_singleton] at he
        rcases he with g | g
        · exact .inl (ge_S_mid hR g)
        · exact .inr (.inl g)
      have hoff := ge_off_sub hy hny (ge_sc_mem_sub hsub)
      have hIy := hI m hm y hoff
      rw [(ge_sc_pos hm).1, (ge_sc_pos hm).2] at hIy
      have e1 : (v :: b :: M ++ [a]).map (ge_sc m) = ge_sc m v :: ge_sc m b :: M.map (ge_sc m) ++ [ge_sc m a] := by simp
      have e2 : (b :: M ++ [a]).map (ge_sc m) = ge_sc m b :: M.map (ge_sc m) ++ [ge_sc m a] := by simp
      have hRm := ge_S_sc hm hR
      rw [e1] at hRm hy
      rw [e1, ge_W_cut, ← e2]
      have hems : ∀ u ∈ M.map (ge_sc m), ¬ ge_inS (ge_sc m a) (ge_sc m v) (ge_sc m b) u := by
        intro u hu
        obtain ⟨u0, hu0, rfl⟩ := List.mem_map.mp hu
        rw [ge_inS_sc hm]
        exact hem u0 hu0
      have hts := ge_x_sc m a v b
      by_cases hin : ge_inS (ge_sc m a) (ge_sc m v) (ge_sc m b) y
      · have hc := ge_in_edge hy hin
        have hinX : ge_inX (ge_sc m a) (ge_sc m v) (ge_sc m b) y := by
          have h3 : ge_x (ge_sc m b) (ge_sc m a) y ≠ 0 := by
            intro h3
            obtain ⟨s1, s2, s3⟩ := ge_bary (ge_sc m a) (ge_sc m v) (ge_sc m b) y
            apply hny
            rcases hc with ⟨g0, g1, g2, -⟩ | ⟨g0, g1, g2, -⟩
            · exact ⟨ge_x (ge_sc m v) (ge_sc m b) y, ge_x (ge_sc m a) (ge_sc m v) y, ge_x (ge_sc m a) (ge_sc m v) (ge_sc m b), 0, by omega, by omega, by omega, by omega, by omega, by omega, by grind, by grind⟩
            · exact ⟨- ge_x (ge_sc m v) (ge_sc m b) y, - ge_x (ge_sc m a) (ge_sc m v) y, - ge_x (ge_sc m a) (ge_sc m v) (ge_sc m b), 0, by omega, by omega, by omega, by omega, by omega, by omega, by grind, by grind⟩
          unfold ge_inX
          rcases hc with hc | hc
          · left; omega
          · right; omega
        have hTW := ge_TW_in hinX
        have hto := ge_to_v hRm (by simpa using hM) hems hinX
        rw [← e2, ge_W_sc hm, hv0] at hto
        rw [hto]
        have qp := ge_sc_pos (a := ge_x a v b) hm
        unfold ge_ss at ht
        constructor
        · intro g
          have := hTW.1 (by rw [hts]; exact qp.1.mpr (by omega))
          omega
        · intro g
          have := hTW.2 (by rw [hts]; exact qp.2.mpr (by omega))
          omega
      · have h0 := ge_TW_out hin (by
          have qp := ge_sc_pos (a := ge_x a v b) hm
          rw [hts]; omega)
        rw [h0]
        unfold ge_ss at hss
        constructor
        · intro g; have := hIy.1 (by omega); omega
        · intro g; have := hIy.2 (by omega); omega
def ge_r (a b : ge_P) : Int := a.1 * b.2 - b.1 * a.2
def ge_RC : List ge_P → Int
  | a :: b :: l => ge_r a b + ge_RC (b :: l)
  | _ => 0
def ge_R (P : List ge_P) : Int := ge_RC (ge_cl P)
theorem ge_RC_app : ∀ (l1 l2 : List ge_P) (q : ge_P), ge_RC (l1 ++ q :: l2) = ge_RC (l1 ++ [q]) + ge_RC (q :: l2)
  | [], l2, q => by simp [ge_RC]
  | [a], l2, q => by simp [ge_RC]
  | a :: b :: l, l2, q => by
    have := ge_RC_app (b :: l) l2 q
    simp [ge_RC] at this ⊢
    omega
theorem ge_R_rot (l1 l2 : List ge_P) : ge_R (l1 ++ l2) = ge_R (l2 ++ l1) := by
  cases l1 with
  | nil => simp
  | cons c l1 =>
    cases l2 with
    | nil => simp
    | cons p l2 =>
      have h1 := ge_RC_app (c :: l1) (l2 ++ [c]) p
      have h2 := ge_RC_app (p :: l2) (l1 ++ [p]) c
      have e1 : ge_cl (c :: l1 ++ p :: l2) = c :: l1 ++ p :: (l2 ++ [c]) := by simp [ge_cl]
      have e2 : ge_cl (p :: l2 ++ c :: l1) = p :: l2 ++ c :: (l1 ++ [p]) := by simp [ge_cl]
      unfold ge_R
      rw [e1, e2, h1, h2]
      simp
      omega
theorem ge_R_cut (p b a : ge_P) (M : List ge_P) : ge_R (p :: b :: M ++ [a]) = ge_R (b :: M ++ [a]) + ge_x a p b := by
  have h1 := ge_RC_app (b :: M) [p] a
  have h2 := ge_RC_app (b :: M) [b] a
  have e : ge_r a p + ge_r p b = ge_r a b + ge_x a p b := by unfold ge_r ge_x; grind
  simp [ge_R, ge_cl, ge_RC] at h1 h2 ⊢
  omega
theorem ge_area : ∀ (n : Nat) (P : List ge_P), P.length ≤ n → ge_S P → ∀ D, ge_Sg P D → ge_ss D (ge_R P)
  | 0, P, hl, hP, _, _ => by have := hP.2.1; omega
  | n + 1, P, hl, hP, D, hD => by
    obtain ⟨L1, L2, v, b, a, M, h1, h2, ht, hem⟩ := ge_an_ear hP hD
    subst h1
    have hR := ge_S_rot hP
    have hDR := ge_Sg_rot hP hD
    rw [h2] at hR hDR
    rw [ge_R_rot, h2, ge_R_cut]
    have hlen : (v :: b :: M ++ [a]).length ≤ n + 1 := by rw [← h2]; simp at hl ⊢; omega
    by_cases hM : M = []
    · subst hM
      have : ge_R (b :: [] ++ [a]) = 0 := by simp [ge_R, ge_cl, ge_RC, ge_r]; grind
      rw [this]
      simpa using ht
    · have htne : ge_x a v b ≠ 0 := by unfold ge_ss at ht; omega
      have hS' := ge_S_cut hR hM htne hem
      obtain ⟨D', hD'⟩ := ge_Sg_ex hS'
      have hss := ge_sense hR hM hDR ht hem hD'
      have hI := ge_area n _ (by simp at hlen ⊢; omega) hS' D' hD'
      unfold ge_ss at *
      omega
