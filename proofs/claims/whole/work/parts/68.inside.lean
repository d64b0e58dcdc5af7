/-! call: inside -/
def an_inside (rg : Nat → ge_P) (m : Nat) (x y v : Int) : Prop := (¬ rs rg m ∧ v = -2) ∨ (rs rg m ∧ (∃ i, i < m ∧ ge_on (rg i) (rg (nx m i)) (x, y)) ∧ v = 0) ∨ (rs rg m ∧ (∀ i, i < m → ¬ ge_on (rg i) (rg (nx m i)) (x, y)) ∧ ((i_w (x, y) rg m m ≠ 0 ∧ v = 1) ∨ (i_w (x, y) rg m m = 0 ∧ v = -1)))
set_option maxRecDepth 20000 in
set_option maxHeartbeats 2000000 in
theorem s_Ro_holds {E : AE} {l : Launch} {h : AH} (H : pd_ok h) {m : Nat} {rg : Nat → ge_P} (K : rk h m rg) {x : ge_P} (hx : pd_p h 60 = x) {Q : AR} (h0 : (∃ i, i < m ∧ ge_on (rg i) (rg (nx m i)) x) → Q (some (.inl 0)) h) (h1 : (∀ i, i < m → ¬ ge_on (rg i) (rg (nx m i)) x) → i_n x rg m m % 2 = 1 → Q (some (.inl 1)) h) (h2 : (∀ i, i < m → ¬ ge_on (rg i) (rg (nx m i)) x) → i_n x rg m m % 2 = 0 → Q (some (.inl (-1))) h) : am_g E l 74 [.inr (.inr 17), .inl 60] h Q := by
  obtain ⟨hm, m40, hr⟩ := K
  refine am_met T_Ro_holds (by decide) (Nat.le_of_ble_eq_true rfl) (fun J hJ => ?_)
  have loop : ∀ d k : Nat, ∀ b : Int, k + d = m → (∀ i, i < k → ¬ ge_on (rg i) (rg (nx m i)) x) → b = i_n x rg m k % 2 → J 4 [some (.inr (.inr 17)), some (.inl 60), some (.inl b), some (.inl (k : Int))] [] h := by
    intro d
    induction d with
    | zero =>
      intro k b hk hno hb
      have ek : k = m := by omega
      rw [ek] at hb hno
      rcases (show b = 0 ∨ b = 1 by omega) with g | g
      · subst g
        repeat (first | refine hJ _ _ _ _ ?_ | refine And.intro (by omega) (fun _ => ?_) | refine And.intro (by omega) ?_ | refine And.intro (fun _ => ?_) (by omega))
        exact h2 hno hb.symm
      · subst g
        repeat (first | refine hJ _ _ _ _ ?_ | refine And.intro (by omega) (fun _ => ?_) | refine And.intro (by omega) ?_ | refine And.intro (fun _ => ?_) (by omega))
        exact h1 hno hb.symm
    | succ d ih =>
      intro k b hk hno hb
      have wk : 0 ≤ h 18 (Int.toNat (k : Int)) ∧ h 18 (Int.toNat (k : Int)) < 60 ∧ pd_p h (h 18 (Int.toNat (k : Int))) = rg k := hr k (by omega)
      have wn := hr (nx m k) (nx_lt (by omega))
      have es : i_n x rg m (k + 1) = i_n x rg m k + if ge_see x (rg k) (rg (nx m k)) then 1 else 0 := su_s (Nat.zero_le _)
      repeat (first | refine hJ _ _ _ _ ?_ | refine And.intro (by omega) (fun _ => ?_) | refine And.intro (by omega) ?_ | refine And.intro (fun _ => ?_) (by omega))
      refine s_Ro_pointAfter hm m40 (by omega) ?_
      repeat (first | refine hJ _ _ _ _ ?_ | refine And.intro (by omega) (fun _ => ?_) | refine And.intro (by omega) ?_ | refine And.intro (fun _ => ?_) (by omega))
      refine s_Po_isOnSegment H wk.1 (Int.lt_trans wk.2.1 (by decide)) wn.1 (Int.lt_trans wn.2.1 (by decide)) (by decide) (by decide) (fun g => ?_) (fun g => ?_)
      · rw [wk.2.2, wn.2.2, hx] at g
        repeat (first | refine hJ _ _ _ _ ?_ | refine And.intro (by omega) (fun _ => ?_) | refine And.intro (by omega) ?_ | refine And.intro (fun _ => ?_) (by omega))
        exact h0 ⟨k, by omega, g⟩
      · rw [wk.2.2, wn.2.2, hx] at g
        have hno' : ∀ i, i < k + 1 → ¬ ge_on (rg i) (rg (nx m i)) x := fun i hi => by
          rcases (show i < k ∨ i = k by omega) with q | q
          · exact hno i q
          · subst q; exact g
        repeat (first | refine hJ _ _ _ _ ?_ | refine And.intro (by omega) (fun _ => ?_) | refine And.intro (by omega) ?_ | refine And.intro (fun _ => ?_) (by omega))
        refine s_Ro_pointAfter hm m40 (by omega) ?_
        repeat (first | refine hJ _ _ _ _ ?_ | refine And.intro (by omega) (fun _ => ?_) | refine And.intro (by omega) ?_ | refine And.intro (fun _ => ?_) (by omega))
        refine s_Po_isSeenFrom H (by decide) (by decide) wk.1 (Int.lt_trans wk.2.1 (by decide)) wn.1 (Int.lt_trans wn.2.1 (by decide)) (fun g2 => ?_) (fun g2 => ?_)
        · rw [wk.2.2, wn.2.2, hx] at g2
          rw [if_pos g2] at es
          rcases (show b = 0 ∨ b = 1 by omega) with q | q
          · subst q
            repeat (first | exact ih (k + 1) _ (by omega) hno' (by omega) | refine hJ _ _ _ _ ?_ | refine And.intro (by omega) (fun _ => ?_) | refine And.intro (by omega) ?_ | refine And.intro (fun _ => ?_) (by omega))
          · subst q
            repeat (first | exact ih (k + 1) _ (by omega) hno' (by omega) | refine hJ _ _ _ _ ?_ | refine And.intro (by omega) (fun _ => ?_) | refine And.intro (by omega) ?_ | refine And.intro (fun _ => ?_) (by omega))
        · rw [wk.2.2, wn.2.2, hx] at g2
          rw [if_neg g2] at es
          repeat (first | exact ih (k + 1) _ (by omega) hno' (by omega) | refine hJ _ _ _ _ ?_ | refine And.intro (by omega) (fun _ => ?_) | refine And.intro (by omega) ?_ | refine And.intro (fun _ => ?_) (by omega))
  repeat (first | exact loop m 0 _ (by omega) (fun i hi => absurd hi (Nat.not_lt_zero _)) rfl | refine hJ _ _ _ _ ?_ | refine And.intro (by omega) (fun _ => ?_) | refine And.intro (by omega) ?_ | refine And.intro (fun _ => ?_) (by omega))
set_option maxRecDepth 20000 in
set_option maxHeartbeats 2000000 in
theorem c_inside {E : AE} {l : Launch} {k n m : Nat} {pt : Nat → ge_P} {rt : Nat → Nat} {rg : Nat → ge_P} {h : AH} (C : ic k n m pt rt rg h) (hk : k ≤ 600) {x y : Int} (hx : pd_in x y) : am_g E l 75 [.inr (.inr 0), .inl x, .inl y] h (fun r h1 => ∃ v, an_inside rg m x y v ∧ cq (k + 1) n m pt rt rg h (some (.inl v)) r h1) := by
  refine am_met T_De_inside (by decide) (Nat.le_of_ble_eq_true rfl) (fun J hJ => ?_)
  repeat (first | refine hJ _ _ _ _ ?_ | refine And.intro (by omega) (fun _ => ?_) | refine And.intro (by omega) ?_ | refine And.intro (fun _ => ?_) (by omega))
  refine s_De_requireInPlane hx ?_
  repeat (first | refine hJ _ _ _ _ ?_ | refine And.intro (by omega) (fun _ => ?_) | refine And.intro (by omega) ?_ | refine And.intro (fun _ => ?_) (by omega))
  refine ic_simple C hk (fun hs h1 f C1 => ?_) (fun hs h1 f C1 => ?_)
  · have C2 := ic_ask C1 hx
    have ea := pd_ask h1 x y
    have hC : ∀ v, cq (k + 1) n m pt rt rg h v v (am_up (am_up h1 2 60 x) 3 60 y) := fun v => ⟨rfl, fun c hc => by rw [am_up_o (by omega), am_up_o (by omega)]; exact f c (by omega) (by omega), ic_mono C2 (by omega)⟩
    repeat (first | refine hJ _ _ _ _ ?_ | refine And.intro (by omega) (fun _ => ?_) | refine And.intro (by omega) ?_ | refine And.intro (fun _ => ?_) (by omega))
    refine s_Po_ask ?_
    generalize am_up (am_up h1 2 60 x) 3 60 y = g at *
    repeat (first | refine hJ _ _ _ _ ?_ | refine And.intro (by omega) (fun _ => ?_) | refine And.intro (by omega) ?_ | refine And.intro (fun _ => ?_) (by omega))
    refine s_Ro_holds C2.1.2.2.1 (ic_rk C2) ea (fun q => ?_) (fun q1 q2 => ?_) (fun q1 q2 => ?_)
    · repeat (first | refine hJ _ _ _ _ ?_ | refine And.intro (by omega) (fun _ => ?_) | refine And.intro (by omega) ?_ | refine And.intro (fun _ => ?_) (by omega))
      exact ⟨0, .inr (.inl ⟨hs, q, rfl⟩), hC _⟩
    · repeat (first | refine hJ _ _ _ _ ?_ | refine And.intro (by omega) (fun _ => ?_) | refine And.intro (by omega) ?_ | refine And.intro (fun _ => ?_) (by omega))
      refine ⟨1, .inr (.inr ⟨hs, q1, .inl ⟨?_, rfl⟩⟩), hC _⟩
      rcases i_same hs q1 with ⟨-, g⟩ | ⟨g, -⟩
      · exact g
      · omega
    · repeat (first | refine hJ _ _ _ _ ?_ | refine And.intro (by omega) (fun _ => ?_) | refine And.intro (by omega) ?_ | refine And.intro (fun _ => ?_) (by omega))
      refine ⟨-1, .inr (.inr ⟨hs, q1, .inr ⟨?_, rfl⟩⟩), hC _⟩
      rcases i_same hs q1 with ⟨g, -⟩ | ⟨-, g⟩
      · omega
      · exact g
  · repeat (first | refine hJ _ _ _ _ ?_ | refine And.intro (by omega) (fun _ => ?_) | refine And.intro (by omega) ?_ | refine And.intro (fun _ => ?_) (by omega))
    exact ⟨-2, .inl ⟨hs, rfl⟩, rfl, fun c hc => f c (by omega) (by omega), ic_mono C1 (by omega)⟩
set_option maxRecDepth 20000 in
set_option maxHeartbeats 2000000 in
theorem m_inside {E : AE} {l : Launch} {n m : Nat} {pt : Nat → ge_P} {rt : Nat → Nat} {rg : Nat → ge_P} {h : AH} (R : ir n m pt rt h) (D : rr n m pt rt rg) {x y v : Int} (hx : pd_in x y) (hv : an_inside rg m x y v) : am_g E l 144 [.inr (.inr 24), .inl x, .inl y] h (rq n m pt rt h 0 (some (.inl v))) := by
  have hQ : ∀ v, rq n m pt rt h 0 v v (am_up h 24 0 0) := fun v => rq_t R
  have hx' := hx
  unfold pd_in at hx'
  have R0 := ir_t R (t := 0)
  have P := R0.1
  have n60 := P.2.1
  have K := ir_mr R0 D
  have K0 := K
  obtain ⟨hm, m40, hr⟩ := K
  have e0 : am_up h 24 0 0 24 0 = 0 := rfl
  refine am_met T_Mo_inside (by decide) (Nat.le_of_ble_eq_true rfl) (fun J hJ => ?_)
  repeat (first | refine hJ _ _ _ _ ?_ | refine And.intro (by omega) (fun _ => ?_) | refine And.intro (by omega) ?_ | refine And.intro (fun _ => ?_) (by omega))
  refine s_Mo_isFar (by omega) (by omega) (fun g => by omega) (fun _ => ?_)
  repeat (first | refine hJ _ _ _ _ ?_ | refine And.intro (by omega) (fun _ => ?_) | refine And.intro (by omega) ?_ | refine And.intro (fun _ => ?_) (by omega))
  refine s_Mo_isFar (by omega) (by omega) (fun g => by omega) (fun _ => ?_)
  repeat (first | refine hJ _ _ _ _ ?_ | refine And.intro (by omega) (fun _ => ?_) | refine And.intro (by omega) ?_ | refine And.intro (fun _ => ?_) (by omega))
  refine s_Mo_isSimple P K0 (fun hs => ?_) (fun hs => ?_)
  · have wb : ∀ k, k ≤ m → -(k : Int) ≤ i_w (x, y) rg m k ∧ i_w (x, y) rg m k ≤ k := fun k _ => by
      have := su_b (g := fun i => ge_w (x, y) (rg i) (rg (nx m i))) (s := 0) (e := k) (A := -1) (B := 1) (by decide) (by decide) (fun j _ _ => by
        show -1 ≤ ge_w (x, y) (rg j) (rg (nx m j)) ∧ ge_w (x, y) (rg j) (rg (nx m j)) ≤ 1
        unfold ge_w
        split
        · omega
        · split <;> omega)
      unfold i_w
      omega
    have loop : ∀ d k : Nat, ∀ (acc : Int) (a b c e : Option AV), k + d = m → (∀ i, i < k → ¬ ge_on (rg i) (rg (nx m i)) (x, y)) → acc = i_w (x, y) rg m k → J 47 [some (.inr (.inr 24)), some (.inl x), some (.inl y), some (.inl acc), some (.inl (k : Int)), a, b, c, e] [] (am_up h 24 0 0) := by
      intro d
      induction d with
      | zero =>
        intro k acc a b c e hk hno ha
        have ek : k = m := by omega
        have wbm := wb k (by omega)
        rw [ek] at ha hno
        have hex : ¬ ∃ i, i < m ∧ ge_on (rg i) (rg (nx m i)) (x, y) := fun ⟨i, g1, g2⟩ => hno i g1 g2
        rw [ek, ← ha] at wbm
        repeat (first | refine hJ _ _ _ _ ?_ | refine And.intro (by omega) (fun _ => ?_) | refine And.intro (by omega) ?_ | refine And.intro (fun _ => ?_) (by omega))
        refine And.intro (fun g => ?_) (fun g => ?_)
        · repeat (first | refine hJ _ _ _ _ ?_ | refine And.intro (by omega) (fun _ => ?_) | refine And.intro (by omega) ?_ | refine And.intro (fun _ => ?_) (by omega))
          rcases hv with ⟨q, -⟩ | ⟨-, q, -⟩ | ⟨-, -, ⟨-, rfl⟩ | ⟨q, -⟩⟩
          · exact absurd hs q
          · exact absurd q hex
          · exact hQ _
          · exact absurd (ha.trans q) g
        · repeat (first | refine hJ _ _ _ _ ?_ | refine And.intro (by omega) (fun _ => ?_) | refine And.intro (by omega) ?_ | refine And.intro (fun _ => ?_) (by omega))
          rcases hv with ⟨q, -⟩ | ⟨-, q, -⟩ | ⟨-, -, ⟨q, -⟩ | ⟨-, rfl⟩⟩
          · exact absurd hs q
          · exact absurd q hex
          · exact absurd (ha.symm.trans g) q
          · exact hQ _
      | succ d ih =>
        intro k acc a b c e hk hno ha
        have wbk := wb k (by omega)
        rw [← ha] at wbk
        have wk : 0 ≤ am_up h 24 0 0 27 (Int.toNat (k : Int)) ∧ am_up h 24 0 0 27 (Int.toNat (k : Int)) < n ∧ pt (am_up h 24 0 0 27 (Int.toNat (k : Int))).toNat = rg k := hr k (by omega)
        have hnx : nx m k < m := nx_lt (by omega)
        have wn : 0 ≤ am_up h 24 0 0 27 (Int.toNat (nx m k : Int)) ∧ am_up h 24 0 0 27 (Int.toNat (nx m k : Int)) < n ∧ pt (am_up h 24 0 0 27 (Int.toNat (nx m k : Int))).toNat = rg (nx m k) := hr (nx m k) hnx
        have ra := mp_i P wk.1 wk.2.1
        have rb := mp_i P wn.1 wn.2.1
        rw [wk.2.2] at ra
        rw [wn.2.2] at rb
        have hb := mp_x (c := (x, y)) ra.2.2 rb.2.2 hx'
        have es : i_w (x, y) rg m (k + 1) = i_w (x, y) rg m k + ge_w (x, y) (rg k) (rg (nx m k)) := su_s (Nat.zero_le _)
        rw [← ha] at es
        have ew : ge_w (x, y) (rg k) (rg (nx m k)) = if (rg k).2 ≤ y ∧ y < (rg (nx m k)).2 ∧ ge_x (rg k) (rg (nx m k)) (x, y) < 0 then 1 else if (rg (nx m k)).2 ≤ y ∧ y < (rg k).2 ∧ 0 < ge_x (rg k) (rg (nx m k)) (x, y) then -1 else 0 := rfl
        repeat (first | refine hJ _ _ _ _ ?_ | refine And.intro (by omega) (fun _ => ?_) | refine And.intro (by omega) ?_ | refine And.intro (fun _ => ?_) (by omega))
        refine s_Mo_behind hm m40 (by omega) ?_
        repeat (first | refine hJ _ _ _ _ ?_ | refine And.intro (by omega) (fun _ => ?_) | refine And.intro (by omega) ?_ | refine And.intro (fun _ => ?_) (by omega))
        refine s_Mo_isOn P wk.1 wk.2.1 wn.1 wn.2.1 hx (fun g => ?_) (fun g => ?_)
        · rw [wk.2.2, wn.2.2] at g
          repeat (first | refine hJ _ _ _ _ ?_ | refine And.intro (by omega) (fun _ => ?_) | refine And.intro (by omega) ?_ | refine And.intro (fun _ => ?_) (by omega))
          rcases hv with ⟨q, -⟩ | ⟨-, -, rfl⟩ | ⟨-, q, -⟩
          · exact absurd hs q
          · exact hQ _
          · exact absurd g (q k (by omega))
        · rw [wk.2.2, wn.2.2] at g
          have hno' : ∀ i, i < k + 1 → ¬ ge_on (rg i) (rg (nx m i)) (x, y) := fun i hi => by
            rcases (show i < k ∨ i = k by omega) with q | q
            · exact hno i q
            · subst q; exact g
          have fin : ∀ (up down : Int) (z : Option AV), ((up = 1 ∧ ((rg k).2 ≤ y ∧ y < (rg (nx m k)).2 ∧ ge_x (rg k) (rg (nx m k)) (x, y) < 0)) ∨ (up = 0 ∧ ¬ ((rg k).2 ≤ y ∧ y < (rg (nx m k)).2 ∧ ge_x (rg k) (rg (nx m k)) (x, y) < 0))) → ((down = 1 ∧ ((rg (nx m k)).2 ≤ y ∧ y < (rg k).2 ∧ 0 < ge_x (rg k) (rg (nx m k)) (x, y))) ∨ (down = 0 ∧ ¬ ((rg (nx m k)).2 ≤ y ∧ y < (rg k).2 ∧ 0 < ge_x (rg k) (rg (nx m k)) (x, y)))) → J 179 [some (.inr (.inr 24)), some (.inl x), some (.inl y), some (.inl acc), some (.inl (k : Int)), some (.inl (am_up h 24 0 0 27 (Int.toNat (k : Int)))), some (.inl (am_up h 24 0 0 27 (Int.toNat (nx m k : Int)))), some (.inl up), z] [.inl down] (am_up h 24 0 0) := by
            intro up down z hu hd
            rcases hu with ⟨rfl, hu⟩ | ⟨rfl, hu⟩
            · rw [if_pos hu] at ew
              rcases hd with ⟨rfl, hd⟩ | ⟨rfl, hd⟩
              · repeat (first | exact ih (k + 1) _ _ _ _ _ (by omega) hno' (by omega) | refine hJ _ _ _ _ ?_ | refine And.intro (by omega) (fun _ => ?_) | refine And.intro (by omega) ?_ | refine And.intro (fun _ => ?_) (by omega))
              · repeat (first | exact ih (k + 1) _ _ _ _ _ (by omega) hno' (by omega) | refine hJ _ _ _ _ ?_ | refine And.intro (by omega) (fun _ => ?_) | refine And.intro (by omega) ?_ | refine And.intro (fun _ => ?_) (by omega))
            · rw [if_neg hu] at ew
              rcases hd with ⟨rfl, hd⟩ | ⟨rfl, hd⟩
              · rw [if_pos hd] at ew
                repeat (first | exact ih (k + 1) _ _ _ _ _ (by omega) hno' (by omega) | refine hJ _ _ _ _ ?_ | refine And.intro (by omega) (fun _ => ?_) | refine And.intro (by omega) ?_ | refine And.intro (fun _ => ?_) (by omega))
              · rw [if_neg hd] at ew
                repeat (first | exact ih (k + 1) _ _ _ _ _ (by omega) hno' (by omega) | refine hJ _ _ _ _ ?_ | refine And.intro (by omega) (fun _ => ?_) | refine And.intro (by omega) ?_ | refine And.intro (fun _ => ?_) (by omega))
          have dn : ∀ (up : Int) (z w : Option AV), ((up = 1 ∧ ((rg k).2 ≤ y ∧ y < (rg (nx m k)).2 ∧ ge_x (rg k) (rg (nx m k)) (x, y) < 0)) ∨ (up = 0 ∧ ¬ ((rg k).2 ≤ y ∧ y < (rg (nx m k)).2 ∧ ge_x (rg k) (rg (nx m k)) (x, y) < 0))) → J 135 [some (.inr (.inr 24)), some (.inl x), some (.inl y), some (.inl acc), some (.inl (k : Int)), some (.inl (am_up h 24 0 0 27 (Int.toNat (k : Int)))), some (.inl (am_up h 24 0 0 27 (Int.toNat (nx m k : Int)))), z, w] [.inl up] (am_up h 24 0 0) := by
            intro up z w hu
            repeat (first | refine hJ _ _ _ _ ?_ | refine And.intro (by omega) (fun _ => ?_) | refine And.intro (by omega) ?_ | refine And.intro (fun _ => ?_) (by omega))
            refine And.intro (fun g1 => ?_) (fun g1 => ?_)
            · repeat (first | exact fin _ 0 _ hu (.inr ⟨rfl, by omega⟩) | refine hJ _ _ _ _ ?_ | refine And.intro (by omega) (fun _ => ?_) | refine And.intro (by omega) ?_ | refine And.intro (fun _ => ?_) (by omega))
            · repeat (first | refine hJ _ _ _ _ ?_ | refine And.intro (by omega) (fun _ => ?_) | refine And.intro (by omega) ?_ | refine And.intro (fun _ => ?_) (by omega))
              refine And.intro (fun g2 => ?_) (fun g2 => ?_)
              · repeat (first | exact fin _ 0 _ hu (.inr ⟨rfl, by omega⟩) | refine hJ _ _ _ _ ?_ | refine And.intro (by omega) (fun _ => ?_) | refine And.intro (by omega) ?_ | refine And.intro (fun _ => ?_) (by omega))
              · repeat (first | refine hJ _ _ _ _ ?_ | refine And.intro (by omega) (fun _ => ?_) | refine And.intro (by omega) ?_ | refine And.intro (fun _ => ?_) (by omega))
                refine s_Mo_c P wk.1 wk.2.1 wn.1 wn.2.1 hx ?_
                rw [wk.2.2, wn.2.2]
                repeat (first | refine hJ _ _ _ _ ?_ | refine And.intro (by omega) (fun _ => ?_) | refine And.intro (by omega) ?_ | refine And.intro (fun _ => ?_) (by omega))
                refine And.intro (fun g3 => ?_) (fun g3 => ?_)
                · repeat (first | exact fin _ 0 _ hu (.inr ⟨rfl, by omega⟩) | refine hJ _ _ _ _ ?_ | refine And.intro (by omega) (fun _ => ?_) | refine And.intro (by omega) ?_ | refine And.intro (fun _ => ?_) (by omega))
                · repeat (first | exact fin _ 1 _ hu (.inl ⟨rfl, by omega⟩) | refine hJ _ _ _ _ ?_ | refine And.intro (by omega) (fun _ => ?_) | refine And.intro (by omega) ?_ | refine And.intro (fun _ => ?_) (by omega))
          repeat (first | refine hJ _ _ _ _ ?_ | refine And.intro (by omega) (fun _ => ?_) | refine And.intro (by omega) ?_ | refine And.intro (fun _ => ?_) (by omega))
          refine And.intro (fun g1 => ?_) (fun g1 => ?_)
          · repeat (first | exact dn 0 _ _ (.inr ⟨rfl, by omega⟩) | refine hJ _ _ _ _ ?_ | refine And.intro (by omega) (fun _ => ?_) | refine And.intro (by omega) ?_ | refine And.intro (fun _ => ?_) (by omega))
          · repeat (first | refine hJ _ _ _ _ ?_ | refine And.intro (by omega) (fun _ => ?_) | refine And.intro (by omega) ?_ | refine And.intro (fun _ => ?_) (by omega))
            refine And.intro (fun g2 => ?_) (fun g2 => ?_)
            · repeat (first | exact dn 0 _ _ (.inr ⟨rfl, by omega⟩) | refine hJ _ _ _ _ ?_ | refine And.intro (by omega) (fun _ => ?_) | refine And.intro (by omega) ?_ | refine And.intro (fun _ => ?_) (by omega))
            · repeat (first | refine hJ _ _ _ _ ?_ | refine And.intro (by omega) (fun _ => ?_) | refine And.intro (by omega) ?_ | refine And.intro (fun _ => ?_) (by omega))
              refine s_Mo_c P wk.1 wk.2.1 wn.1 wn.2.1 hx ?_
              rw [wk.2.2, wn.2.2]
              repeat (first | refine hJ _ _ _ _ ?_ | refine And.intro (by omega) (fun _ => ?_) | refine And.intro (by omega) ?_ | refine And.intro (fun _ => ?_) (by omega))
              refine And.intro (fun g3 => ?_) (fun g3 => ?_)
              · repeat (first | exact dn 0 _ _ (.inr ⟨rfl, by omega⟩) | refine hJ _ _ _ _ ?_ | refine And.intro (by omega) (fun _ => ?_) | refine And.intro (by omega) ?_ | refine And.intro (fun _ => ?_) (by omega))
              · repeat (first | exact dn 1 _ _ (.inl ⟨rfl, by omega⟩) | refine hJ _ _ _ _ ?_ | refine And.intro (by omega) (fun _ => ?_) | refine And.intro (by omega) ?_ | refine And.intro (fun _ => ?_) (by omega))
    repeat (first | exact loop m 0 _ _ _ _ _ (by omega) (fun i hi => absurd hi (Nat.not_lt_zero _)) rfl | refine hJ _ _ _ _ ?_ | refine And.intro (by omega) (fun _ => ?_) | refine And.intro (by omega) ?_ | refine And.intro (fun _ => ?_) (by omega))
  · repeat (first | refine hJ _ _ _ _ ?_ | refine And.intro (by omega) (fun _ => ?_) | refine And.intro (by omega) ?_ | refine And.intro (fun _ => ?_) (by omega))
    rcases hv with ⟨-, rfl⟩ | ⟨q, -⟩ | ⟨q, -⟩
    · exact hQ _
    · exact absurd q hs
    · exact absurd q hs
set_option maxRecDepth 20000 in
set_option maxHeartbeats 2000000 in
theorem m_inside_1 {E : AE} {l : Launch} {n m : Nat} {pt : Nat → ge_P} {rt : Nat → Nat} {h : AH} (R : ir n m pt rt h) {x y : Int} (hx : lo_r x) (hy : lo_r y) (hb : ¬ pd_in x y) : am_g E l 144 [.inr (.inr 24), .inl x, .inl y] h (rq n m pt rt h 1 (some (.inl 0))) := by
  have hQ : ∀ v, rq n m pt rt h 1 v v (am_up h 24 0 1) := fun v => rq_t R
  unfold pd_in at hb
  have e0 : am_up h 24 0 1 24 0 = 1 := rfl
  refine am_met T_Mo_inside (by decide) (Nat.le_of_ble_eq_true rfl) (fun J hJ => ?_)
  repeat (first | refine hJ _ _ _ _ ?_ | refine And.intro (by omega) (fun _ => ?_) | refine And.intro (by omega) ?_ | refine And.intro (fun _ => ?_) (by omega))
  refine s_Mo_isFar hx.1 hx.2 (fun g => ?_) (fun g => ?_)
  · repeat (first | refine hJ _ _ _ _ ?_ | refine And.intro (by omega) (fun _ => ?_) | refine And.intro (by omega) ?_ | refine And.intro (fun _ => ?_) (by omega))
    exact hQ _
  · repeat (first | refine hJ _ _ _ _ ?_ | refine And.intro (by omega) (fun _ => ?_) | refine And.intro (by omega) ?_ | refine And.intro (fun _ => ?_) (by omega))
    refine s_Mo_isFar hy.1 hy.2 (fun g2 => ?_) (fun g2 => by omega)
    repeat (first | refine hJ _ _ _ _ ?_ | refine And.intro (by omega) (fun _ => ?_) | refine And.intro (by omega) ?_ | refine And.intro (fun _ => ?_) (by omega))
    exact hQ _
theorem o_inside {E : AE} {l : Launch} {s : State} (htr : l.stackTraces = false) (h0 : tx_0 s E) {k : Nat} {h : AH} (hk : k ≤ 600) (I : iv k h) : op_inside E l s (iv (k + 1)) h := by
  obtain ⟨n, m, pt, rt, rg, C, R⟩ := I
  intro x hx y hy
  have D := ic_rr C
  by_cases hb : pd_in x y
  · refine op_hp (P := an_inside rg m x y) R (fun v hv => ?_) (fun Q hg => hp_inside_0 hg) (c_inside C hk hb) (fun v hv h1 R1 => m_inside R1 D hb hv)
    rcases hv with ⟨-, rfl⟩ | ⟨-, -, rfl⟩ | ⟨-, -, ⟨-, rfl⟩ | ⟨-, rfl⟩⟩ <;> decide
  · exact hp_inside_1 h0 (z_De_inside h0 htr hx.1 hx.2 hy.1 hy.2 hb (op_t R (ic_mono C (by omega)) (fun _ _ => rfl) (by decide) (by decide) (fun h1 R1 => m_inside_1 R1 hx hy hb)))
