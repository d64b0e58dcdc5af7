/-! calls whose answer is known by what it is -/
theorem op_p {E : AE} {l : Launch} {kc km : Nat} {as : List AV} {h : AH} {k n m : Nat} {pt : Nat → ge_P} {rt : Nat → Nat} {rg : Nat → ge_P} (R : ir n m pt rt h) {P : Int → Prop} {t : Int} (hb : ∀ v, P v → -2147483648 ≤ v ∧ v < 2147483648) (hc : am_g E l kc (.inr (.inr 0) :: as) h (fun r h1 => ∃ v, P v ∧ cq k n m pt rt rg h (some (.inl v)) r h1)) (hr : ∀ v, P v → ∀ h1, ir n m pt rt h1 → am_g E l km (.inr (.inr 24) :: as) h1 (rq n m pt rt h1 t (some (.inl v)))) : lo_I E l kc km as (iv k) h := by
  refine am_g_mono hc ?_
  rintro r h1 ⟨v, hP, rfl, f, C⟩
  refine ⟨v, rfl, (hb v hP).1, (hb v hP).2, ?_⟩
  refine am_g_mono (hr v hP h1 (ir_cg R (fun c c1 _ => f c c1))) ?_
  rintro r h2 ⟨rfl, f2, -, R2⟩
  exact ⟨rfl, n, m, pt, rt, rg, ic_cg C (fun c hc => f2 c (.inl hc)), R2⟩
theorem op_hp {E : AE} {l : Launch} {s0 : State} {q : HM} {kc km : Nat} {as : List AV} {h : AH} {k n m : Nat} {pt : Nat → ge_P} {rt : Nat → Nat} {rg : Nat → ge_P} (R : ir n m pt rt h) {P : Int → Prop} (hb : ∀ v, P v → -2147483648 ≤ v ∧ v < 2147483648)
    (hp : ∀ Q : AR, am_g E l kc (.inr (.inr 0) :: as) h (fun r h' => ∃ v : Int, r = some (.inl v) ∧ -2147483648 ≤ v ∧ v < 2147483648 ∧ Q (some (.inl 0)) (am_up h' 34 0 v)) → hp_G E l s0 q (.inr (.inr 0) :: as ++ [.inr (.inr 34)]) h Q)
    (hc : am_g E l kc (.inr (.inr 0) :: as) h (fun r h1 => ∃ v, P v ∧ cq k n m pt rt rg h (some (.inl v)) r h1)) (hr : ∀ v, P v → ∀ h1, ir n m pt rt h1 → am_g E l km (.inr (.inr 24) :: as) h1 (rq n m pt rt h1 0 (some (.inl v)))) : lo_H E l s0 q km as (iv k) h := by
  refine hp _ (am_g_mono hc ?_)
  rintro r h1 ⟨v, hP, rfl, f, C⟩
  have v1 := (hb v hP).1
  have v2 := (hb v hP).2
  refine ⟨v, rfl, v1, v2, 0, rfl, by decide, by decide, ?_⟩
  refine am_g_mono (hr v hP (am_up h1 34 0 v) (ir_cg R (fun c c1 c2 => by rw [am_up_o (by omega)]; exact f c c1))) ?_
  rintro r h2 ⟨rfl, f2, e2, R2⟩
  refine ⟨v, rfl, v1, v2, e2, fun _ => ?_, n, m, pt, rt, rg, ic_cg C (fun c hc => by rw [f2 c (.inl hc), am_up_o (by omega)]), R2⟩
  rw [f2 34 (.inr rfl)]
  simp [am_up]
/-! pair -/
def an_pair (pt : Nat → ge_P) (n : Nat) (w v : Int) : Prop := (¬ (2 ≤ n ∧ (w = 0 ∨ w = 1)) ∧ v = -1) ∨ ((2 ≤ n ∧ (w = 0 ∨ w = 1)) ∧ ∃ st : Int × Int, pr_ok pt w n n n st ∧ v = st.1)
set_option maxRecDepth 20000 in
set_option maxHeartbeats 2000000 in
theorem c_pair {E : AE} {l : Launch} {k n m : Nat} {pt : Nat → ge_P} {rt : Nat → Nat} {rg : Nat → ge_P} {h : AH} (C : ic k n m pt rt rg h) {w : Int} (hw : lo_r w) : am_g E l 34 [.inr (.inr 0), .inl w] h (fun r h1 => ∃ v, an_pair pt n w v ∧ cq (k + 1) n m pt rt rg h (some (.inl v)) r h1) := by
  have hC : ∀ v, cq (k + 1) n m pt rt rg h v v h := fun v => ⟨rfl, fun _ _ => rfl, ic_mono C (by omega)⟩
  have p1 := C.1.1
  have p2 := C.1.2.1
  have H := C.1.2.2.1
  have dp : ∀ i j : Nat, i < n → j < n → hu_d (pd_p h (i : Int)) (pd_p h (j : Int)) = hu_d (pt i) (pt j) := fun i j hi hj => by
    rw [ic_p C (i := (i : Int)) (by omega) (by omega), ic_p C (i := (j : Int)) (by omega) (by omega)]; rfl
  have db : ∀ i j : Nat, i < n → j < n → 0 ≤ hu_d (pt i) (pt j) ∧ hu_d (pt i) (pt j) ≤ 80000000000 := fun i j hi hj => by
    rw [← dp i j hi hj]; exact pd_d_b H (by omega) (by omega) (by omega) (by omega)
  have no : ¬ (2 ≤ n ∧ (w = 0 ∨ w = 1)) → ∃ v, an_pair pt n w v ∧ cq (k + 1) n m pt rt rg h (some (.inl v)) (some (.inl (-1))) h := fun g => ⟨-1, .inl ⟨g, rfl⟩, hC _⟩
  refine am_met T_De_pair (by decide) (Nat.le_of_ble_eq_true rfl) (fun J hJ => ?_)
  by_cases hy : 2 ≤ n ∧ (w = 0 ∨ w = 1)
  · have st0 : ∀ st : Int × Int, ∀ i q : Nat, (pr_ok pt w n i q st ∨ (i = 0 ∧ q = 1 ∧ st = (1, hu_d (pt 0) (pt 1)))) → 0 ≤ st.2 ∧ st.2 ≤ 80000000000 := fun st i q g => by
      rcases g with ⟨a, b, h1, h2, h3, h4, h5, h6⟩ | ⟨-, -, rfl⟩
      · rw [h5]; exact db a b (by omega) h2
      · exact db 0 1 (by omega) (by omega)
    have outer : ∀ d i : Nat, ∀ (st : Int × Int) (x y z : Option AV), i + d = n → (pr_ok pt w n i (i + 1) st ∨ (i = 0 ∧ st = (1, hu_d (pt 0) (pt 1)))) → J 37 [some (.inr (.inr 0)), some (.inl w), some (.inl st.1), some (.inr (.inl st.2)), none, some (.inl (i : Int)), x, y, z] [] h := by
      intro d
      induction d with
      | zero =>
        intro i st x y z hi hs
        have : i = n := by omega
        subst this
        repeat (first | refine hJ _ _ _ _ ?_ | refine And.intro (by omega) (fun _ => ?_) | refine And.intro (by omega) ?_ | refine And.intro (fun _ => ?_) (by omega))
        rcases hs with hs | ⟨g, -⟩
        · exact ⟨st.1, .inr ⟨hy, st, pr_fin hs, rfl⟩, hC _⟩
        · omega
      | succ d oih =>
        intro i st x y z hi hs
        have inner : ∀ e q : Nat, ∀ (st : Int × Int) (y z : Option AV), q + e = n → i < q → (pr_ok pt w n i q st ∨ (i = 0 ∧ q = 1 ∧ st = (1, hu_d (pt 0) (pt 1)))) → J 55 [some (.inr (.inr 0)), some (.inl w), some (.inl st.1), some (.inr (.inl st.2)), none, some (.inl (i : Int)), some (.inl (q : Int)), y, z] [] h := by
          intro e
          induction e with
          | zero =>
            intro q st y z hq hiq hs
            have : q = n := by omega
            subst this
            have hs' : pr_ok pt w q i q st := by
              rcases hs with hs | ⟨-, g, -⟩
              · exact hs
              · omega
            repeat (first | exact oih (i + 1) st _ _ _ (by omega) (.inl (pr_row hs')) | refine hJ _ _ _ _ ?_ | refine And.intro (by omega) (fun _ => ?_) | refine And.intro (by omega) ?_ | refine And.intro (fun _ => ?_) (by omega))
          | succ e ih =>
            intro q st y z hq hiq hs
            have hb := st0 st i q hs
            have hb2 := db i q (by omega) (by omega)
            have keep : ¬ pr_w w st.2 (hu_d (pt i) (pt q)) → pr_ok pt w n i (q + 1) st := fun g => by
              rcases hs with hs | ⟨rfl, rfl, rfl⟩
              · exact pr_keep hs g
              · exact pr_first hy.1
            have take : pr_w w st.2 (hu_d (pt i) (pt q)) → pr_ok pt w n i (q + 1) (64 * (i : Int) + q, hu_d (pt i) (pt q)) := fun g => by
              rcases hs with hs | ⟨rfl, rfl, rfl⟩
              · exact pr_take hs hiq (by omega) g
              · exact absurd g pr_w_irr
            unfold pr_w at keep take
            repeat (first | refine hJ _ _ _ _ ?_ | refine And.intro (by omega) (fun _ => ?_) | refine And.intro (by omega) ?_ | refine And.intro (fun _ => ?_) (by omega))
            refine s_Po_squaredDistance H (by omega) (by omega) (by omega) (by omega) ?_
            rw [dp i q (by omega) (by omega)]
            rcases hy.2 with rfl | rfl
            · repeat (first | refine hJ _ _ _ _ ?_ | refine And.intro (by omega) (fun _ => ?_) | refine And.intro (by omega) ?_ | refine And.intro (fun _ => ?_) (by omega))
              refine And.intro (fun hc => ?_) (fun hc => ?_)
              · repeat (first | exact ih (q + 1) st _ _ (by omega) (by omega) (.inl (keep (by omega))) | refine hJ _ _ _ _ ?_ | refine And.intro (by omega) (fun _ => ?_) | refine And.intro (by omega) ?_ | refine And.intro (fun _ => ?_) (by omega))
              · repeat (first | exact ih (q + 1) (64 * (i : Int) + q, hu_d (pt i) (pt q)) _ _ (by omega) (by omega) (.inl (take (by omega))) | refine hJ _ _ _ _ ?_ | refine And.intro (by omega) (fun _ => ?_) | refine And.intro (by omega) ?_ | refine And.intro (fun _ => ?_) (by omega))
            · repeat (first | refine hJ _ _ _ _ ?_ | refine And.intro (by omega) (fun _ => ?_) | refine And.intro (by omega) ?_ | refine And.intro (fun _ => ?_) (by omega))
              refine And.intro (fun hc => ?_) (fun hc => ?_)
              · repeat (first | exact ih (q + 1) st _ _ (by omega) (by omega) (.inl (keep (by omega))) | refine hJ _ _ _ _ ?_ | refine And.intro (by omega) (fun _ => ?_) | refine And.intro (by omega) ?_ | refine And.intro (fun _ => ?_) (by omega))
              · repeat (first | exact ih (q + 1) (64 * (i : Int) + q, hu_d (pt i) (pt q)) _ _ (by omega) (by omega) (.inl (take (by omega))) | refine hJ _ _ _ _ ?_ | refine And.intro (by omega) (fun _ => ?_) | refine And.intro (by omega) ?_ | refine And.intro (fun _ => ?_) (by omega))
        have hs1 : pr_ok pt w n i (i + 1) st ∨ (i = 0 ∧ i + 1 = 1 ∧ st = (1, hu_d (pt 0) (pt 1))) := by
          rcases hs with hs | ⟨rfl, g⟩
          · exact .inl hs
          · exact .inr ⟨rfl, rfl, g⟩
        repeat (first | exact inner (n - (i + 1)) (i + 1) st _ _ (by omega) (by omega) hs1 | refine hJ _ _ _ _ ?_ | refine And.intro (by omega) (fun _ => ?_) | refine And.intro (by omega) ?_ | refine And.intro (fun _ => ?_) (by omega))
    have dp01 : hu_d (pd_p h 0) (pd_p h 1) = hu_d (pt 0) (pt 1) := dp 0 1 (by omega) (by omega)
    rcases hy.2 with rfl | rfl
    · repeat (first | refine hJ _ _ _ _ ?_ | refine And.intro (by omega) (fun _ => ?_) | refine And.intro (by omega) ?_ | refine And.intro (fun _ => ?_) (by omega))
      refine s_Po_squaredDistance H (by omega) (by omega) (by omega) (by omega) ?_
      rw [dp01]
      repeat (first | exact outer n 0 (1, hu_d (pt 0) (pt 1)) _ _ _ (by omega) (.inr ⟨rfl, rfl⟩) | refine hJ _ _ _ _ ?_ | refine And.intro (by omega) (fun _ => ?_) | refine And.intro (by omega) ?_ | refine And.intro (fun _ => ?_) (by omega))
    · repeat (first | refine hJ _ _ _ _ ?_ | refine And.intro (by omega) (fun _ => ?_) | refine And.intro (by omega) ?_ | refine And.intro (fun _ => ?_) (by omega))
      refine s_Po_squaredDistance H (by omega) (by omega) (by omega) (by omega) ?_
      rw [dp01]
      repeat (first | exact outer n 0 (1, hu_d (pt 0) (pt 1)) _ _ _ (by omega) (.inr ⟨rfl, rfl⟩) | refine hJ _ _ _ _ ?_ | refine And.intro (by omega) (fun _ => ?_) | refine And.intro (by omega) ?_ | refine And.intro (fun _ => ?_) (by omega))
  · by_cases hn : 2 ≤ n
    · have : ¬ (w = 0 ∨ w = 1) := fun g => hy ⟨hn, g⟩
      repeat (first | refine hJ _ _ _ _ ?_ | refine And.intro (by omega) (fun _ => ?_) | refine And.intro (by omega) ?_ | refine And.intro (fun _ => ?_) (by omega))
      exact no hy
    · repeat (first | refine hJ _ _ _ _ ?_ | refine And.intro (by omega) (fun _ => ?_) | refine And.intro (by omega) ?_ | refine And.intro (fun _ => ?_) (by omega))
      exact no hy
set_option maxRecDepth 20000 in
set_option maxHeartbeats 2000000 in
theorem m_pair {E : AE} {l : Launch} {n m : Nat} {pt : Nat → ge_P} {rt : Nat → Nat} {h : AH} (R : ir n m pt rt h) {w v : Int} (hw : lo_r w) (hv : an_pair pt n w v) : am_g E l 115 [.inr (.inr 24), .inl w] h (rq n m pt rt h 0 (some (.inl v))) := by
  have hQ : ∀ v, rq n m pt rt h 0 v v (am_up h 24 0 0) := fun v => rq_t R
  have P := (ir_t R (t := 0)).1
  have p1 := P.1
  have p2 := P.2.1
  have db : ∀ i j : Nat, i < n → j < n → 0 ≤ hu_d (pt i) (pt j) ∧ hu_d (pt i) (pt j) ≤ 80000000000 := fun i j hi hj => mp_d (P.2.2.2 i hi) (P.2.2.2 j hj)
  refine am_met T_Mo_pair (by decide) (Nat.le_of_ble_eq_true rfl) (fun J hJ => ?_)
  by_cases hy : w = 0 ∨ w = 1
  · have st0 : ∀ st : Int × Int, ∀ i q : Nat, (pr_ok pt w n i q st ∨ (st = (-1, 0) ∧ i = 0 ∧ q = 1)) → 0 ≤ st.2 ∧ st.2 ≤ 80000000000 ∧ -1 ≤ st.1 ∧ st.1 < 4096 ∧ (st.1 < 0 → st = (-1, 0) ∧ i = 0 ∧ q = 1) := fun st i q g => by
      rcases g with g | ⟨rfl, g1, g2⟩
      · have b := pr_b g p2
        obtain ⟨a, b, h1, h2, h3, h4, h5, h6⟩ := g
        have := db a b (by omega) h2
        rw [h5]
        exact ⟨this.1, this.2, by omega, by omega, fun g => by omega⟩
      · exact ⟨by decide, by decide, by decide, by decide, fun _ => ⟨rfl, g1, g2⟩⟩
    have outer : ∀ d i : Nat, ∀ (st : Int × Int) (x y z : Option AV), i + d = n → (pr_ok pt w n i (i + 1) st ∨ (st = (-1, 0) ∧ (i = 0 ∨ n ≤ 1))) → J 12 [some (.inr (.inr 24)), some (.inl w), some (.inl st.1), some (.inr (.inl st.2)), none, some (.inl (i : Int)), x, y, z] [] (am_up h 24 0 0) := by
      intro d
      induction d with
      | zero =>
        intro i st x y z hi hs
        have : i = n := by omega
        subst this
        have ev : v = st.1 := by
          rcases hs with hs | ⟨rfl, g⟩
          · rcases hv with ⟨g, -⟩ | ⟨-, st', g1, g2⟩
            · obtain ⟨a, b, h1, h2, h3, h4, h5, h6⟩ := hs
              exact absurd ⟨by omega, hy⟩ g
            · rw [g2, pr_uniq g1 (pr_fin hs)]
          · rcases hv with ⟨-, g⟩ | ⟨g1, -⟩
            · exact g
            · omega
        repeat (first | refine hJ _ _ _ _ ?_ | refine And.intro (by omega) (fun _ => ?_) | refine And.intro (by omega) ?_ | refine And.intro (fun _ => ?_) (by omega))
        rw [← ev]
        exact hQ _
      | succ d oih =>
        intro i st x y z hi hs
        have inner : ∀ e q : Nat, ∀ (st : Int × Int) (y z : Option AV), q + e = n → i < q → (pr_ok pt w n i q st ∨ (st = (-1, 0) ∧ i = 0 ∧ q = 1)) → J 36 [some (.inr (.inr 24)), some (.inl w), some (.inl st.1), some (.inr (.inl st.2)), none, some (.inl (i : Int)), some (.inl (q : Int)), y, z] [] (am_up h 24 0 0) := by
          intro e
          induction e with
          | zero =>
            intro q st y z hq hiq hs
            have : q = n := by omega
            subst this
            have hs' : pr_ok pt w q (i + 1) (i + 1 + 1) st ∨ (st = (-1, 0) ∧ (i + 1 = 0 ∨ q ≤ 1)) := by
              rcases hs with hs | ⟨g1, -, g2⟩
              · exact .inl (pr_row hs)
              · exact .inr ⟨g1, .inr (by omega)⟩
            repeat (first | exact oih (i + 1) st _ _ _ (by omega) hs' | refine hJ _ _ _ _ ?_ | refine And.intro (by omega) (fun _ => ?_) | refine And.intro (by omega) ?_ | refine And.intro (fun _ => ?_) (by omega))
          | succ e ih =>
            intro q st y z hq hiq hs
            have hb := st0 st i q hs
            have hb2 := db i q (by omega) (by omega)
            have keep : ¬ st.1 < 0 → ¬ pr_w w st.2 (hu_d (pt i) (pt q)) → pr_ok pt w n i (q + 1) st := fun g0 g => by
              rcases hs with hs | ⟨rfl, rfl, rfl⟩
              · exact pr_keep hs g
              · exact absurd (show ((-1 : Int), (0 : Int)).1 < 0 by decide) g0
            have take : (st.1 < 0 ∨ pr_w w st.2 (hu_d (pt i) (pt q))) → pr_ok pt w n i (q + 1) (64 * (i : Int) + q, hu_d (pt i) (pt q)) := fun g => by
              rcases hs with hs | ⟨rfl, rfl, rfl⟩
              · rcases g with g | g
                · have := hb.2.2.2.2 g
                  obtain ⟨-, rfl, rfl⟩ := this
                  exact pr_first (by omega)
                · exact pr_take hs hiq (by omega) g
              · exact pr_first (by omega)
            unfold pr_w at keep take
            repeat (first | refine hJ _ _ _ _ ?_ | refine And.intro (by omega) (fun _ => ?_) | refine And.intro (by omega) ?_ | refine And.intro (fun _ => ?_) (by omega))
            refine s_Mo_far P (by omega) (by omega) (by omega) (by omega) ?_
            have ed : hu_d (pt (Int.toNat (i : Int))) (pt (Int.toNat (q : Int))) = hu_d (pt i) (pt q) := rfl
            rw [ed]
            repeat (first | refine hJ _ _ _ _ ?_ | refine And.intro (by omega) (fun _ => ?_) | refine And.intro (by omega) ?_ | refine And.intro (fun _ => ?_) (by omega))
            refine And.intro (fun hneg => ?_) (fun hneg => ?_)
            · repeat (first | exact ih (q + 1) (64 * (i : Int) + q, hu_d (pt i) (pt q)) _ _ (by omega) (by omega) (.inl (take (.inl hneg))) | refine hJ _ _ _ _ ?_ | refine And.intro (by omega) (fun _ => ?_) | refine And.intro (by omega) ?_ | refine And.intro (fun _ => ?_) (by omega))
            · rcases hy with rfl | rfl
              · repeat (first | refine hJ _ _ _ _ ?_ | refine And.intro (by omega) (fun _ => ?_) | refine And.intro (by omega) ?_ | refine And.intro (fun _ => ?_) (by omega))
                refine And.intro (fun hc => ?_) (fun hc => ?_)
                · repeat (first | exact ih (q + 1) st _ _ (by omega) (by omega) (.inl (keep (by omega) (by omega))) | refine hJ _ _ _ _ ?_ | refine And.intro (by omega) (fun _ => ?_) | refine And.intro (by omega) ?_ | refine And.intro (fun _ => ?_) (by omega))
                · repeat (first | exact ih (q + 1) (64 * (i : Int) + q, hu_d (pt i) (pt q)) _ _ (by omega) (by omega) (.inl (take (by omega))) | refine hJ _ _ _ _ ?_ | refine And.intro (by omega) (fun _ => ?_) | refine And.intro (by omega) ?_ | refine And.intro (fun _ => ?_) (by omega))
              · repeat (first | refine hJ _ _ _ _ ?_ | refine And.intro (by omega) (fun _ => ?_) | refine And.intro (by omega) ?_ | refine And.intro (fun _ => ?_) (by omega))
                refine And.intro (fun hc => ?_) (fun hc => ?_)
                · repeat (first | exact ih (q + 1) st _ _ (by omega) (by omega) (.inl (keep (by omega) (by omega))) | refine hJ _ _ _ _ ?_ | refine And.intro (by omega) (fun _ => ?_) | refine And.intro (by omega) ?_ | refine And.intro (fun _ => ?_) (by omega))
                · repeat (first | exact ih (q + 1) (64 * (i : Int) + q, hu_d (pt i) (pt q)) _ _ (by omega) (by omega) (.inl (take (by omega))) | refine hJ _ _ _ _ ?_ | refine And.intro (by omega) (fun _ => ?_) | refine And.intro (by omega) ?_ | refine And.intro (fun _ => ?_) (by omega))
        have hs1 : pr_ok pt w n i (i + 1) st ∨ (st = (-1, 0) ∧ i = 0 ∧ i + 1 = 1) := by
          rcases hs with hs | ⟨g1, g2⟩
          · exact .inl hs
          · exact .inr ⟨g1, by omega, by omega⟩
        rcases hy with rfl | rfl
        · repeat (first | exact inner (n - (i + 1)) (i + 1) st _ _ (by omega) (by omega) hs1 | refine hJ _ _ _ _ ?_ | refine And.intro (by omega) (fun _ => ?_) | refine And.intro (by omega) ?_ | refine And.intro (fun _ => ?_) (by omega))
        · repeat (first | exact inner (n - (i + 1)) (i + 1) st _ _ (by omega) (by omega) hs1 | refine hJ _ _ _ _ ?_ | refine And.intro (by omega) (fun _ => ?_) | refine And.intro (by omega) ?_ | refine And.intro (fun _ => ?_) (by omega))
    repeat (first | exact outer n 0 (-1, 0) _ _ _ (by omega) (.inr ⟨rfl, .inl rfl⟩) | refine hJ _ _ _ _ ?_ | refine And.intro (by omega) (fun _ => ?_) | refine And.intro (by omega) ?_ | refine And.intro (fun _ => ?_) (by omega))
  · have ev : v = -1 := by
      rcases hv with ⟨-, g⟩ | ⟨⟨-, g⟩, -⟩
      · exact g
      · exact absurd g hy
    subst ev
    by_cases hn : n = 0
    · repeat (first | refine hJ _ _ _ _ ?_ | refine And.intro (by omega) (fun _ => ?_) | refine And.intro (by omega) ?_ | refine And.intro (fun _ => ?_) (by omega))
      exact hQ _
    · repeat (first | refine hJ _ _ _ _ ?_ | refine And.intro (by omega) (fun _ => ?_) | refine And.intro (by omega) ?_ | refine And.intro (fun _ => ?_) (by omega))
      exact hQ _
theorem o_pair {E : AE} {l : Launch} {s : State} {k : Nat} {h : AH} (I : iv k h) : op_pair E l s (iv (k + 1)) h := by
  obtain ⟨n, m, pt, rt, rg, C, R⟩ := I
  intro x hx
  refine op_p (P := an_pair pt n x) R (fun v hv => ?_) (c_pair C hx) (fun v hv h1 R1 => m_pair R1 hx hv)
  rcases hv with ⟨-, rfl⟩ | ⟨-, st, g, rfl⟩
  · decide
  · have := pr_b g C.1.2.1
    omega
