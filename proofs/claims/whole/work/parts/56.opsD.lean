/-! calls: nearest, beside, turn -/
/-- asking about a place changes nothing that counts -/
theorem ic_ask {k n m : Nat} {pt : Nat → ge_P} {rt : Nat → Nat} {rg : Nat → ge_P} {h : AH} (C : ic k n m pt rt rg h) {x y : Int} (hx : pd_in x y) : ic k n m pt rt rg (am_up (am_up h 2 60 x) 3 60 y) := by
  obtain ⟨⟨p1, p2, p3, p4⟩, Rr, v, hh, hl, hc, ht⟩ := C
  unfold pd_in at hx
  have o : ∀ c, c ≠ 2 → c ≠ 3 → am_up (am_up h 2 60 x) 3 60 y c = h c := fun c c2 c3 => by rw [am_up_o c3, am_up_o c2]
  have g2 : ∀ j, am_up (am_up h 2 60 x) 3 60 y 2 j = if j = 60 then x else h 2 j := fun j => by simp [am_up]
  have g3 : ∀ j, am_up (am_up h 2 60 x) 3 60 y 3 j = if j = 60 then y else h 3 j := fun j => by simp [am_up]
  generalize am_up (am_up h 2 60 x) 3 60 y = g at *
  refine ⟨⟨by rw [o 1 (by decide) (by decide)]; exact p1, p2, fun i hi => ?_, fun i hi => ?_⟩, icR_cg Rr (o _ (by decide) (by decide)) (o _ (by decide) (by decide)), icV_cg v (o _ (by decide) (by decide)) (o _ (by decide) (by decide)), icH_cg hh (o _ (by decide) (by decide)) (o _ (by decide) (by decide)) (o _ (by decide) (by decide)), icL_cg hl (o _ (by decide) (by decide)) (o _ (by decide) (by decide)) (o _ (by decide) (by decide)), icC_cg hc (o _ (by decide) (by decide)) (o _ (by decide) (by decide)) (o _ (by decide) (by decide)), icT_cg ht (o _ (by decide) (by decide)) (o _ (by decide) (by decide)) (o _ (by decide) (by decide))⟩
  · rw [g2, g3]
    have := p3 i hi
    split
    · omega
    · exact this
  · have e : pd_q g i = pd_q h i := by
      unfold pd_q
      rw [g2, g3, if_neg (by omega), if_neg (by omega)]
    rw [e]
    exact p4 i hi
theorem pd_ask (h : AH) (x y : Int) : pd_p (am_up (am_up h 2 60 x) 3 60 y) 60 = (x, y) := by simp [pd_p, am_up]
def an_near (pt : Nat → ge_P) (n : Nat) (x y v : Int) : Prop := (n = 0 ∧ v = -1) ∨ (0 < n ∧ ∃ f : Nat, ne_ok (fun i => hu_d (pt i) (x, y)) n f ∧ v = (f : Int))
set_option maxRecDepth 20000 in
set_option maxHeartbeats 2000000 in
theorem c_nearest {E : AE} {l : Launch} {k n m : Nat} {pt : Nat → ge_P} {rt : Nat → Nat} {rg : Nat → ge_P} {h : AH} (C : ic k n m pt rt rg h) {x y : Int} (hx : pd_in x y) : am_g E l 50 [.inr (.inr 0), .inl x, .inl y] h (fun r h1 => ∃ v, an_near pt n x y v ∧ cq (k + 1) n m pt rt rg h (some (.inl v)) r h1) := by
  have hC : ∀ v, cq (k + 1) n m pt rt rg h v v h := fun v => ⟨rfl, fun _ _ => rfl, ic_mono C (by omega)⟩
  have p1 := C.1.1
  have p2 := C.1.2.1
  have C2 := ic_ask C hx
  have hC2 : ∀ v, cq (k + 1) n m pt rt rg h v v (am_up (am_up h 2 60 x) 3 60 y) := fun v => ⟨rfl, fun c hc => by rw [am_up_o (by omega), am_up_o (by omega)], ic_mono C2 (by omega)⟩
  have ea := pd_ask h x y
  refine am_met T_De_nearest (by decide) (Nat.le_of_ble_eq_true rfl) (fun J hJ => ?_)
  repeat (first | refine hJ _ _ _ _ ?_ | refine And.intro (by omega) (fun _ => ?_) | refine And.intro (by omega) ?_ | refine And.intro (fun _ => ?_) (by omega))
  refine s_De_requireInPlane hx ?_
  by_cases hn : n = 0
  · repeat (first | refine hJ _ _ _ _ ?_ | refine And.intro (by omega) (fun _ => ?_) | refine And.intro (by omega) ?_ | refine And.intro (fun _ => ?_) (by omega))
    exact ⟨-1, .inl ⟨hn, rfl⟩, hC _⟩
  · repeat (first | refine hJ _ _ _ _ ?_ | refine And.intro (by omega) (fun _ => ?_) | refine And.intro (by omega) ?_ | refine And.intro (fun _ => ?_) (by omega))
    refine s_Po_ask ?_
    generalize am_up (am_up h 2 60 x) 3 60 y = g at *
    have g1 := C2.1.1
    have H := C2.1.2.2.1
    have ep := fun (i : Nat) (hi : i < n) => ic_p C2 (i := (i : Int)) (by omega) (by omega)
    have eb : ∀ i : Nat, i < n → 0 ≤ hu_d (pt i) (x, y) ∧ hu_d (pt i) (x, y) ≤ 80000000000 := fun i hi => by
      have := pd_d_b H (a := (i : Int)) (b := 60) (by omega) (by omega) (by decide) (by decide)
      rw [ep i hi, ea] at this
      exact this
    have loop : ∀ d i : Nat, ∀ f : Nat, i + d = n → 1 ≤ i → ne_ok (fun i => hu_d (pt i) (x, y)) i f → J 31 [some (.inr (.inr 0)), some (.inl x), some (.inl y), some (.inl (f : Int)), some (.inl (i : Int))] [] g := by
      intro d
      induction d with
      | zero =>
        intro i f hi h1 hf
        have : i = n := by omega
        subst this
        repeat (first | refine hJ _ _ _ _ ?_ | refine And.intro (by omega) (fun _ => ?_) | refine And.intro (by omega) ?_ | refine And.intro (fun _ => ?_) (by omega))
        exact ⟨_, .inr ⟨by omega, f, hf, rfl⟩, hC2 _⟩
      | succ d ih =>
        intro i f hi h1 hf
        have hfi := hf.1
        have b1 := eb i (by omega)
        have b2 := eb f (by omega)
        repeat (first | refine hJ _ _ _ _ ?_ | refine And.intro (by omega) (fun _ => ?_) | refine And.intro (by omega) ?_ | refine And.intro (fun _ => ?_) (by omega))
        refine s_Po_squaredDistance H (by omega) (by omega) (by decide) (by decide) ?_
        rw [ep i (by omega), ea]
        repeat (first | refine hJ _ _ _ _ ?_ | refine And.intro (by omega) (fun _ => ?_) | refine And.intro (by omega) ?_ | refine And.intro (fun _ => ?_) (by omega))
        refine s_Po_squaredDistance H (by omega) (by omega) (by decide) (by decide) ?_
        rw [ep f (by omega), ea]
        have e1 : hu_d (pt (Int.toNat (i : Int))) (x, y) = hu_d (pt i) (x, y) := rfl
        have e2 : hu_d (pt (Int.toNat (f : Int))) (x, y) = hu_d (pt f) (x, y) := rfl
        rw [e1, e2]
        repeat (first | refine hJ _ _ _ _ ?_ | refine And.intro (by omega) (fun _ => ?_) | refine And.intro (by omega) ?_ | refine And.intro (fun _ => ?_) (by omega))
        refine And.intro (fun hc => ?_) (fun hc => ?_)
        · have hf' : ne_ok (fun i => hu_d (pt i) (x, y)) (i + 1) f := by
            refine ⟨by omega, fun j hj => ?_⟩
            rcases (show j < i ∨ j = i by omega) with q | q
            · exact hf.2 j q
            · subst q; exact ⟨hc, fun q => by omega⟩
          repeat (first | exact ih (i + 1) f (by omega) (by omega) hf' | refine hJ _ _ _ _ ?_ | refine And.intro (by omega) (fun _ => ?_) | refine And.intro (by omega) ?_ | refine And.intro (fun _ => ?_) (by omega))
        · have hf' : ne_ok (fun i => hu_d (pt i) (x, y)) (i + 1) i := by
            refine ⟨by omega, fun j hj => ?_⟩
            rcases (show j < i ∨ j = i by omega) with q | q
            · have : hu_d (pt f) (x, y) ≤ hu_d (pt j) (x, y) := (hf.2 j q).1
              show hu_d (pt i) (x, y) ≤ hu_d (pt j) (x, y) ∧ (j < i → hu_d (pt i) (x, y) < hu_d (pt j) (x, y))
              exact ⟨by omega, fun _ => by omega⟩
            · subst q; exact ⟨Int.le_refl _, fun q => by omega⟩
          repeat (first | exact ih (i + 1) i (by omega) (by omega) hf' | refine hJ _ _ _ _ ?_ | refine And.intro (by omega) (fun _ => ?_) | refine And.intro (by omega) ?_ | refine And.intro (fun _ => ?_) (by omega))
    have hf0 : ne_ok (fun i => hu_d (pt i) (x, y)) 1 0 := ⟨by decide, fun j hj => by
      obtain rfl : j = 0 := by omega
      exact ⟨Int.le_refl _, fun q => by omega⟩⟩
    repeat (first | exact loop (n - 1) 1 0 (by omega) (by omega) hf0 | refine hJ _ _ _ _ ?_ | refine And.intro (by omega) (fun _ => ?_) | refine And.intro (by omega) ?_ | refine And.intro (fun _ => ?_) (by omega))
set_option maxRecDepth 20000 in
set_option maxHeartbeats 2000000 in
theorem m_nearest {E : AE} {l : Launch} {n m : Nat} {pt : Nat → ge_P} {rt : Nat → Nat} {h : AH} (R : ir n m pt rt h) {x y v : Int} (hx : pd_in x y) (hv : an_near pt n x y v) : am_g E l 126 [.inr (.inr 24), .inl x, .inl y] h (rq n m pt rt h 0 (some (.inl v))) := by
  have hQ : ∀ v, rq n m pt rt h 0 v v (am_up h 24 0 0) := fun v => rq_t R
  have hx' := hx
  unfold pd_in at hx'
  have P := (ir_t R (t := 0)).1
  have p1 := P.1
  have p2 := P.2.1
  have e0 : am_up h 24 0 0 24 0 = 0 := rfl
  have eb : ∀ i : Nat, i < n → 0 ≤ hu_d (pt i) (x, y) ∧ hu_d (pt i) (x, y) ≤ 80000000000 := fun i hi => mp_d (P.2.2.2 i hi) hx'
  refine am_met T_Mo_nearest (by decide) (Nat.le_of_ble_eq_true rfl) (fun J hJ => ?_)
  have loop : ∀ c : Nat, ∀ (p found : Int), p + 1 = (c : Int) → c ≤ n → ((c = n ∧ found = -1) ∨ ∃ f : Nat, found = (f : Int) ∧ c ≤ f ∧ f < n ∧ ∀ j, c ≤ j → j < n → hu_d (pt f) (x, y) ≤ hu_d (pt j) (x, y) ∧ (j < f → hu_d (pt f) (x, y) < hu_d (pt j) (x, y))) → J 33 [some (.inr (.inr 24)), some (.inl x), some (.inl y), some (.inl found), some (.inl p)] [] (am_up h 24 0 0) := by
    intro c
    induction c with
    | zero =>
      intro p found hp hc hs
      have ev : v = found := by
        rcases hs with ⟨g1, g2⟩ | ⟨f, g1, g2, g3, g4⟩
        · rcases hv with ⟨-, q⟩ | ⟨q, -⟩
          · omega
          · omega
        · rcases hv with ⟨q, -⟩ | ⟨-, f', q1, q2⟩
          · omega
          · rw [q2, g1, ne_uniq q1 (g := f) ⟨g3, fun j hj => g4 j (by omega) hj⟩]
      repeat (first | refine hJ _ _ _ _ ?_ | refine And.intro (by omega) (fun _ => ?_) | refine And.intro (by omega) ?_ | refine And.intro (fun _ => ?_) (by omega))
      rw [← ev]
      exact hQ _
    | succ c ih =>
      intro p found hp hc hs
      have ep : p = (c : Int) := by omega
      subst ep
      rcases hs with ⟨g1, g2⟩ | ⟨f, g1, g2, g3, g4⟩
      · subst g2
        repeat (first | exact ih _ _ (by omega) (by omega) (.inr ⟨c, rfl, by omega, by omega, fun j j1 j2 => by (obtain rfl : j = c := by omega); exact ⟨Int.le_refl _, fun q => by omega⟩⟩) | refine hJ _ _ _ _ ?_ | refine And.intro (by omega) (fun _ => ?_) | refine And.intro (by omega) ?_ | refine And.intro (fun _ => ?_) (by omega))
      · subst g1
        have b1 := eb c (by omega)
        have b2 := eb f (by omega)
        repeat (first | refine hJ _ _ _ _ ?_ | refine And.intro (by omega) (fun _ => ?_) | refine And.intro (by omega) ?_ | refine And.intro (fun _ => ?_) (by omega))
        refine s_Mo_farOf P (by omega) (by omega) hx ?_
        repeat (first | refine hJ _ _ _ _ ?_ | refine And.intro (by omega) (fun _ => ?_) | refine And.intro (by omega) ?_ | refine And.intro (fun _ => ?_) (by omega))
        refine s_Mo_farOf P (by omega) (by omega) hx ?_
        rw [hu_d_symm (x, y), hu_d_symm (x, y)]
        have e1 : hu_d (pt (Int.toNat (c : Int))) (x, y) = hu_d (pt c) (x, y) := rfl
        have e2 : hu_d (pt (Int.toNat (f : Int))) (x, y) = hu_d (pt f) (x, y) := rfl
        rw [e1, e2]
        repeat (first | refine hJ _ _ _ _ ?_ | refine And.intro (by omega) (fun _ => ?_) | refine And.intro (by omega) ?_ | refine And.intro (fun _ => ?_) (by omega))
        refine And.intro (fun hd => ?_) (fun hd => ?_)
        · have hs' : ∀ j, c ≤ j → j < n → hu_d (pt f) (x, y) ≤ hu_d (pt j) (x, y) ∧ (j < f → hu_d (pt f) (x, y) < hu_d (pt j) (x, y)) := fun j j1 j2 => by
            rcases (show c + 1 ≤ j ∨ j = c by omega) with q | q
            · exact g4 j q j2
            · subst q; exact ⟨by omega, fun _ => hd⟩
          repeat (first | exact ih _ _ (by omega) (by omega) (.inr ⟨f, rfl, by omega, g3, hs'⟩) | refine hJ _ _ _ _ ?_ | refine And.intro (by omega) (fun _ => ?_) | refine And.intro (by omega) ?_ | refine And.intro (fun _ => ?_) (by omega))
        · have hs' : ∀ j, c ≤ j → j < n → hu_d (pt c) (x, y) ≤ hu_d (pt j) (x, y) ∧ (j < c → hu_d (pt c) (x, y) < hu_d (pt j) (x, y)) := fun j j1 j2 => by
            rcases (show c + 1 ≤ j ∨ j = c by omega) with q | q
            · have := (g4 j q j2).1
              exact ⟨by omega, fun q => by omega⟩
            · subst q; exact ⟨Int.le_refl _, fun q => by omega⟩
          repeat (first | exact ih _ _ (by omega) (by omega) (.inr ⟨c, rfl, by omega, by omega, hs'⟩) | refine hJ _ _ _ _ ?_ | refine And.intro (by omega) (fun _ => ?_) | refine And.intro (by omega) ?_ | refine And.intro (fun _ => ?_) (by omega))
  repeat (first | refine hJ _ _ _ _ ?_ | refine And.intro (by omega) (fun _ => ?_) | refine And.intro (by omega) ?_ | refine And.intro (fun _ => ?_) (by omega))
  refine s_Mo_isFar (by omega) (by omega) (fun g => by omega) (fun _ => ?_)
  repeat (first | refine hJ _ _ _ _ ?_ | refine And.intro (by omega) (fun _ => ?_) | refine And.intro (by omega) ?_ | refine And.intro (fun _ => ?_) (by omega))
  refine s_Mo_isFar (by omega) (by omega) (fun g => by omega) (fun _ => ?_)
  repeat (first | exact loop n _ _ (by omega) (Nat.le_refl _) (.inl ⟨rfl, rfl⟩) | refine hJ _ _ _ _ ?_ | refine And.intro (by omega) (fun _ => ?_) | refine And.intro (by omega) ?_ | refine And.intro (fun _ => ?_) (by omega))
