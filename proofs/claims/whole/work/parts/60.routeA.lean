/-! the class: the route and its crossings -/
/-- the route in the heap -/
def rk (h : AH) (m : Nat) (rg : Nat → ge_P) : Prop := h 17 2 = (m : Int) ∧ m ≤ 40 ∧ ∀ j : Nat, j < m → 0 ≤ h 18 j ∧ h 18 j < 60 ∧ pd_p h (h 18 j) = rg j
theorem ic_rk {k n m : Nat} {pt : Nat → ge_P} {rt : Nat → Nat} {rg : Nat → ge_P} {h : AH} (C : ic k n m pt rt rg h) : rk h m rg := by
  have p2 := C.1.2.1
  obtain ⟨r1, r2, r3⟩ := C.2.1
  refine ⟨r1, r2, fun j hj => ?_⟩
  obtain ⟨a, b, c⟩ := r3 j hj
  rw [a]
  refine ⟨by omega, by omega, ?_⟩
  rw [ic_p C (by omega) (by omega), c]
  rfl
theorem rk_cg {h h' : AH} {m : Nat} {rg : Nat → ge_P} (K : rk h m rg) (e1 : h' 17 = h 17) (e2 : h' 18 = h 18) (e3 : h' 2 = h 2) (e4 : h' 3 = h 3) : rk h' m rg := by
  unfold rk pd_p at *
  rw [e1, e2, e3, e4]
  exact K
theorem pd_ok_cg {h h' : AH} (H : pd_ok h) (e3 : h' 2 = h 2) (e4 : h' 3 = h 3) : pd_ok h' := by
  unfold pd_ok at *
  rw [e3, e4]
  exact H
set_option maxRecDepth 20000 in
set_option maxHeartbeats 2000000 in
theorem s_Ro_placeAfter {E : AE} {l : Launch} {h : AH} {m : Nat} (hm : h 17 2 = (m : Int)) (m40 : m ≤ 40) {i : Nat} (hi : i < m) {Q : AR} (hQ : Q (some (.inl (nx m i : Int))) h) : am_g E l 59 [.inr (.inr 17), .inl (i : Int)] h Q := by
  refine am_met T_Ro_placeAfter (by decide) (Nat.le_of_ble_eq_true rfl) (fun J hJ => ?_)
  by_cases hx : i + 1 < m
  · rw [show nx m i = i + 1 from if_pos hx] at hQ
    repeat (first | refine hJ _ _ _ _ ?_ | refine And.intro (by omega) (fun _ => ?_) | refine And.intro (by omega) ?_ | refine And.intro (fun _ => ?_) (by omega))
    exact hQ
  · rw [show nx m i = 0 from if_neg hx] at hQ
    repeat (first | refine hJ _ _ _ _ ?_ | refine And.intro (by omega) (fun _ => ?_) | refine And.intro (by omega) ?_ | refine And.intro (fun _ => ?_) (by omega))
    exact hQ
set_option maxRecDepth 20000 in
set_option maxHeartbeats 2000000 in
theorem s_Ro_pointAfter {E : AE} {l : Launch} {h : AH} {m : Nat} (hm : h 17 2 = (m : Int)) (m40 : m ≤ 40) {i : Nat} (hi : i < m) {Q : AR} (hQ : Q (some (.inl (h 18 (nx m i)))) h) : am_g E l 60 [.inr (.inr 17), .inl (i : Int)] h Q := by
  have hnx : nx m i < m := nx_lt hi
  refine am_met T_Ro_pointAfter (by decide) (Nat.le_of_ble_eq_true rfl) (fun J hJ => ?_)
  repeat (first | refine hJ _ _ _ _ ?_ | refine And.intro (by omega) (fun _ => ?_) | refine And.intro (by omega) ?_ | refine And.intro (fun _ => ?_) (by omega))
  refine s_Ro_placeAfter hm m40 hi ?_
  repeat (first | refine hJ _ _ _ _ ?_ | refine And.intro (by omega) (fun _ => ?_) | refine And.intro (by omega) ?_ | refine And.intro (fun _ => ?_) (by omega))
  exact hQ
set_option maxRecDepth 20000 in
set_option maxHeartbeats 2000000 in
theorem s_Cr_foldsBack {E : AE} {l : Launch} {h : AH} (H : pd_ok h) {m : Nat} {rg : Nat → ge_P} (K : rk h m rg) {i j : Nat} (hi : i < m) (hj : j < m) {Q : AR} (h1 : ge_fb (rg i) (rg j) (rg (nx m j)) → Q (some (.inl 1)) h) (h0 : ¬ ge_fb (rg i) (rg j) (rg (nx m j)) → Q (some (.inl 0)) h) : am_g E l 61 [.inr (.inr 19), .inl (i : Int), .inl (j : Int)] h Q := by
  obtain ⟨hm, m40, hr⟩ := K
  have wi : 0 ≤ h 18 (Int.toNat (i : Int)) ∧ h 18 (Int.toNat (i : Int)) < 60 ∧ pd_p h (h 18 (Int.toNat (i : Int))) = rg i := hr i hi
  have wj : 0 ≤ h 18 (Int.toNat (j : Int)) ∧ h 18 (Int.toNat (j : Int)) < 60 ∧ pd_p h (h 18 (Int.toNat (j : Int))) = rg j := hr j hj
  have wn := hr (nx m j) (nx_lt hj)
  have bx := pd_x_b H wj.1 (Int.lt_trans wj.2.1 (by decide)) wi.1 (Int.lt_trans wi.2.1 (by decide)) wn.1 (Int.lt_trans wn.2.1 (by decide))
  have bd := pd_dot_b H wj.1 (Int.lt_trans wj.2.1 (by decide)) wi.1 (Int.lt_trans wi.2.1 (by decide)) wn.1 (Int.lt_trans wn.2.1 (by decide))
  rw [wi.2.2, wj.2.2, wn.2.2] at bx bd
  have ef := ge_fold_iff (rg i) (rg j) (rg (nx m j))
  refine am_met T_Cr_foldsBack (by decide) (Nat.le_of_ble_eq_true rfl) (fun J hJ => ?_)
  repeat (first | refine hJ _ _ _ _ ?_ | refine And.intro (by omega) (fun _ => ?_) | refine And.intro (by omega) ?_ | refine And.intro (fun _ => ?_) (by omega))
  refine s_Ro_pointAfter hm m40 hj ?_
  repeat (first | refine hJ _ _ _ _ ?_ | refine And.intro (by omega) (fun _ => ?_) | refine And.intro (by omega) ?_ | refine And.intro (fun _ => ?_) (by omega))
  refine s_Po_crossProduct H wj.1 (Int.lt_trans wj.2.1 (by decide)) wi.1 (Int.lt_trans wi.2.1 (by decide)) wn.1 (Int.lt_trans wn.2.1 (by decide)) ?_
  rw [wi.2.2, wj.2.2, wn.2.2]
  repeat (first | refine hJ _ _ _ _ ?_ | refine And.intro (by omega) (fun _ => ?_) | refine And.intro (by omega) ?_ | refine And.intro (fun _ => ?_) (by omega))
  refine And.intro (fun hc => ?_) (fun hc => ?_)
  · repeat (first | refine hJ _ _ _ _ ?_ | refine And.intro (by omega) (fun _ => ?_) | refine And.intro (by omega) ?_ | refine And.intro (fun _ => ?_) (by omega))
    exact h0 (fun g => hc (ef.mpr g).1)
  · repeat (first | refine hJ _ _ _ _ ?_ | refine And.intro (by omega) (fun _ => ?_) | refine And.intro (by omega) ?_ | refine And.intro (fun _ => ?_) (by omega))
    refine s_Po_dotProduct H wj.1 (Int.lt_trans wj.2.1 (by decide)) wi.1 (Int.lt_trans wi.2.1 (by decide)) wn.1 (Int.lt_trans wn.2.1 (by decide)) ?_
    rw [wi.2.2, wj.2.2, wn.2.2]
    repeat (first | refine hJ _ _ _ _ ?_ | refine And.intro (by omega) (fun _ => ?_) | refine And.intro (by omega) ?_ | refine And.intro (fun _ => ?_) (by omega))
    refine And.intro (fun hd => ?_) (fun hd => ?_)
    · repeat (first | refine hJ _ _ _ _ ?_ | refine And.intro (by omega) (fun _ => ?_) | refine And.intro (by omega) ?_ | refine And.intro (fun _ => ?_) (by omega))
      exact h0 (fun g => absurd (ef.mpr g).2 (Int.not_lt.mpr hd))
    · repeat (first | refine hJ _ _ _ _ ?_ | refine And.intro (by omega) (fun _ => ?_) | refine And.intro (by omega) ?_ | refine And.intro (fun _ => ?_) (by omega))
      exact h1 (ef.mp ⟨hc, hd⟩)
set_option maxRecDepth 20000 in
set_option maxHeartbeats 2000000 in
theorem s_Cr_doCross {E : AE} {l : Launch} {h : AH} (H : pd_ok h) {m : Nat} {rg : Nat → ge_P} (K : rk h m rg) {i k : Nat} (hi : i < m) (hk : k < m) {Q : AR} (h1 : cr_b rg m i k = true → Q (some (.inl 1)) h) (h0 : ¬ cr_b rg m i k = true → Q (some (.inl 0)) h) : am_g E l 63 [.inr (.inr 19), .inl (i : Int), .inl (k : Int)] h Q := by
  have K0 := K
  obtain ⟨hm, m40, hr⟩ := K
  have hni : nx m i < m := nx_lt hi
  have hnk : nx m k < m := nx_lt hk
  have wi : 0 ≤ h 18 (Int.toNat (i : Int)) ∧ h 18 (Int.toNat (i : Int)) < 60 ∧ pd_p h (h 18 (Int.toNat (i : Int))) = rg i := hr i hi
  have wk : 0 ≤ h 18 (Int.toNat (k : Int)) ∧ h 18 (Int.toNat (k : Int)) < 60 ∧ pd_p h (h 18 (Int.toNat (k : Int))) = rg k := hr k hk
  have wni := hr (nx m i) hni
  have wnk := hr (nx m k) hnk
  refine am_met T_Cr_doCross (by decide) (Nat.le_of_ble_eq_true rfl) (fun J hJ => ?_)
  repeat (first | refine hJ _ _ _ _ ?_ | refine And.intro (by omega) (fun _ => ?_) | refine And.intro (by omega) ?_ | refine And.intro (fun _ => ?_) (by omega))
  refine s_Ro_placeAfter hm m40 hi ?_
  repeat (first | refine hJ _ _ _ _ ?_ | refine And.intro (by omega) (fun _ => ?_) | refine And.intro (by omega) ?_ | refine And.intro (fun _ => ?_) (by omega))
  refine And.intro (fun hc => ?_) (fun hc => ?_)
  · have hc' : ¬ nx m i = k := fun g => hc (by rw [g])
    repeat (first | refine hJ _ _ _ _ ?_ | refine And.intro (by omega) (fun _ => ?_) | refine And.intro (by omega) ?_ | refine And.intro (fun _ => ?_) (by omega))
    refine s_Ro_placeAfter hm m40 hk ?_
    repeat (first | refine hJ _ _ _ _ ?_ | refine And.intro (by omega) (fun _ => ?_) | refine And.intro (by omega) ?_ | refine And.intro (fun _ => ?_) (by omega))
    refine And.intro (fun hd => ?_) (fun hd => ?_)
    · have hd' : ¬ nx m k = i := fun g => hd (by rw [g])
      have e : cr_b rg m i k = decide (ge_sh (rg i) (rg (nx m i)) (rg k) (rg (nx m k))) := by
        unfold cr_b
        rw [if_neg hc', if_neg hd']
      rw [e, decide_eq_true_iff] at h1 h0
      repeat (first | refine hJ _ _ _ _ ?_ | refine And.intro (by omega) (fun _ => ?_) | refine And.intro (by omega) ?_ | refine And.intro (fun _ => ?_) (by omega))
      refine s_Ro_pointAfter hm m40 hi ?_
      repeat (first | refine hJ _ _ _ _ ?_ | refine And.intro (by omega) (fun _ => ?_) | refine And.intro (by omega) ?_ | refine And.intro (fun _ => ?_) (by omega))
      refine s_Ro_pointAfter hm m40 hk ?_
      repeat (first | refine hJ _ _ _ _ ?_ | refine And.intro (by omega) (fun _ => ?_) | refine And.intro (by omega) ?_ | refine And.intro (fun _ => ?_) (by omega))
      refine s_Po_segmentsMeet H wi.1 (Int.lt_trans wi.2.1 (by decide)) wni.1 (Int.lt_trans wni.2.1 (by decide)) wk.1 (Int.lt_trans wk.2.1 (by decide)) wnk.1 (Int.lt_trans wnk.2.1 (by decide)) (fun g => ?_) (fun g => ?_)
      · rw [wi.2.2, wni.2.2, wk.2.2, wnk.2.2] at g
        repeat (first | refine hJ _ _ _ _ ?_ | refine And.intro (by omega) (fun _ => ?_) | refine And.intro (by omega) ?_ | refine And.intro (fun _ => ?_) (by omega))
        exact h1 g
      · rw [wi.2.2, wni.2.2, wk.2.2, wnk.2.2] at g
        repeat (first | refine hJ _ _ _ _ ?_ | refine And.intro (by omega) (fun _ => ?_) | refine And.intro (by omega) ?_ | refine And.intro (fun _ => ?_) (by omega))
        exact h0 g
    · have hd' : nx m k = i := by omega
      have e : cr_b rg m i k = decide (ge_fb (rg k) (rg i) (rg (nx m i))) := by
        unfold cr_b
        rw [if_neg hc', if_pos hd']
      rw [e, decide_eq_true_iff] at h1 h0
      repeat (first | refine hJ _ _ _ _ ?_ | refine And.intro (by omega) (fun _ => ?_) | refine And.intro (by omega) ?_ | refine And.intro (fun _ => ?_) (by omega))
      refine s_Cr_foldsBack H K0 hk hi (fun g => ?_) (fun g => ?_)
      · repeat (first | refine hJ _ _ _ _ ?_ | refine And.intro (by omega) (fun _ => ?_) | refine And.intro (by omega) ?_ | refine And.intro (fun _ => ?_) (by omega))
        exact h1 g
      · repeat (first | refine hJ _ _ _ _ ?_ | refine And.intro (by omega) (fun _ => ?_) | refine And.intro (by omega) ?_ | refine And.intro (fun _ => ?_) (by omega))
        exact h0 g
  · have hc' : nx m i = k := by omega
    have e : cr_b rg m i k = decide (ge_fb (rg i) (rg k) (rg (nx m k))) := by
      unfold cr_b
      rw [if_pos hc']
    rw [e, decide_eq_true_iff] at h1 h0
    repeat (first | refine hJ _ _ _ _ ?_ | refine And.intro (by omega) (fun _ => ?_) | refine And.intro (by omega) ?_ | refine And.intro (fun _ => ?_) (by omega))
    refine s_Cr_foldsBack H K0 hi hk (fun g => ?_) (fun g => ?_)
    · repeat (first | refine hJ _ _ _ _ ?_ | refine And.intro (by omega) (fun _ => ?_) | refine And.intro (by omega) ?_ | refine And.intro (fun _ => ?_) (by omega))
      exact h1 g
    · repeat (first | refine hJ _ _ _ _ ?_ | refine And.intro (by omega) (fun _ => ?_) | refine And.intro (by omega) ?_ | refine And.intro (fun _ => ?_) (by omega))
      exact h0 g
set_option maxRecDepth 20000 in
set_option maxHeartbeats 2000000 in
theorem s_Ro_apart {E : AE} {l : Launch} {h : AH} (H : pd_ok h) {m : Nat} {rg : Nat → ge_P} (K : rk h m rg) {Q : AR} (h1 : (∀ i k, i < k → k < m → rg i ≠ rg k) → Q (some (.inl 1)) h) (h0 : (¬ ∀ i k, i < k → k < m → rg i ≠ rg k) → Q (some (.inl 0)) h) : am_g E l 64 [.inr (.inr 17)] h Q := by
  obtain ⟨hm, m40, hr⟩ := K
  refine am_met T_Ro_pointsAreApart (by decide) (Nat.le_of_ble_eq_true rfl) (fun J hJ => ?_)
  have outer : ∀ d i : Nat, ∀ x : Option AV, i + d = m → (∀ a b, a < b → b < m → a < i → rg a ≠ rg b) → J 2 [some (.inr (.inr 17)), some (.inl (i : Int)), x] [] h := by
    intro d
    induction d with
    | zero =>
      intro i x hi hall
      repeat (first | refine hJ _ _ _ _ ?_ | refine And.intro (by omega) (fun _ => ?_) | refine And.intro (by omega) ?_ | refine And.intro (fun _ => ?_) (by omega))
      exact h1 (fun a b g1 g2 => hall a b g1 g2 (by omega))
    | succ d oih =>
      intro i x hi hall
      have inner : ∀ e k : Nat, k + e = m → i < k → (∀ b, i < b → b < k → rg i ≠ rg b) → J 14 [some (.inr (.inr 17)), some (.inl (i : Int)), some (.inl (k : Int))] [] h := by
        intro e
        induction e with
        | zero =>
          intro k hk hik hin
          have hall' : ∀ a b, a < b → b < m → a < i + 1 → rg a ≠ rg b := fun a b g1 g2 g3 => by
            rcases (show a < i ∨ a = i by omega) with q | q
            · exact hall a b g1 g2 q
            · subst q; exact hin b g1 (by omega)
          repeat (first | exact oih (i + 1) _ (by omega) hall' | refine hJ _ _ _ _ ?_ | refine And.intro (by omega) (fun _ => ?_) | refine And.intro (by omega) ?_ | refine And.intro (fun _ => ?_) (by omega))
        | succ e ih =>
          intro k hk hik hin
          have wi : 0 ≤ h 18 (Int.toNat (i : Int)) ∧ h 18 (Int.toNat (i : Int)) < 60 ∧ pd_p h (h 18 (Int.toNat (i : Int))) = rg i := hr i (by omega)
          have wk : 0 ≤ h 18 (Int.toNat (k : Int)) ∧ h 18 (Int.toNat (k : Int)) < 60 ∧ pd_p h (h 18 (Int.toNat (k : Int))) = rg k := hr k (by omega)
          repeat (first | refine hJ _ _ _ _ ?_ | refine And.intro (by omega) (fun _ => ?_) | refine And.intro (by omega) ?_ | refine And.intro (fun _ => ?_) (by omega))
          refine s_Po_areAtOnePlace H wi.1 (Int.lt_trans wi.2.1 (by decide)) wk.1 (Int.lt_trans wk.2.1 (by decide)) (fun g => ?_) (fun g => ?_)
          · rw [wi.2.2, wk.2.2] at g
            repeat (first | refine hJ _ _ _ _ ?_ | refine And.intro (by omega) (fun _ => ?_) | refine And.intro (by omega) ?_ | refine And.intro (fun _ => ?_) (by omega))
            exact h0 (fun q => q i k hik (by omega) g)
          · rw [wi.2.2, wk.2.2] at g
            have hin' : ∀ b, i < b → b < k + 1 → rg i ≠ rg b := fun b g1 g2 => by
              rcases (show b < k ∨ b = k by omega) with q | q
              · exact hin b g1 q
              · subst q; exact g
            repeat (first | exact ih (k + 1) (by omega) (by omega) hin' | refine hJ _ _ _ _ ?_ | refine And.intro (by omega) (fun _ => ?_) | refine And.intro (by omega) ?_ | refine And.intro (fun _ => ?_) (by omega))
      repeat (first | exact inner (m - (i + 1)) (i + 1) (by omega) (by omega) (fun b g1 g2 => by omega) | refine hJ _ _ _ _ ?_ | refine And.intro (by omega) (fun _ => ?_) | refine And.intro (by omega) ?_ | refine And.intro (fun _ => ?_) (by omega))
  repeat (first | exact outer m 0 _ (by omega) (fun a b _ _ g => absurd g (Nat.not_lt_zero _)) | refine hJ _ _ _ _ ?_ | refine And.intro (by omega) (fun _ => ?_) | refine And.intro (by omega) ?_ | refine And.intro (fun _ => ?_) (by omega))
theorem getD_l {L : List Int} {v : Int} {j : Nat} (h : j < L.length) : (L ++ [v]).getD j 0 = L.getD j 0 := by
  simp [List.getD_eq_getElem?_getD, List.getElem?_append_left h]
theorem getD_r (L : List Int) (v : Int) : (L ++ [v]).getD L.length 0 = v := by
  simp [List.getD_eq_getElem?_getD]
set_option maxRecDepth 20000 in
set_option maxHeartbeats 2000000 in
theorem s_Cr_refresh {E : AE} {l : Launch} {h : AH} (H : pd_ok h) {m : Nat} {rg : Nat → ge_P} (K : rk h m rg) (v1 : 0 ≤ h 19 5) (v2 : h 19 5 < 2147483648) (v3 : 0 ≤ h 17 3) (v4 : h 17 3 < 2147483648) {Q : AR} (hsame : h 19 5 = h 17 3 → Q none h) (hnew : ¬ h 19 5 = h 17 3 → ∀ h' : AH, (∀ c, c ≠ 19 → c ≠ 20 → h' c = h c) → h' 19 5 = h 17 3 → cv m rg h' → Q none h') : am_g E l 65 [.inr (.inr 19)] h Q := by
  have hm := K.1
  have m40 := K.2.1
  refine am_met T_Cr_refresh (by decide) (Nat.le_of_ble_eq_true rfl) (fun J hJ => ?_)
  repeat (first | refine hJ _ _ _ _ ?_ | refine And.intro (by omega) (fun _ => ?_) | refine And.intro (by omega) ?_ | refine And.intro (fun _ => ?_) (by omega))
  refine And.intro (fun hv => ?_) (fun hv => ?_)
  · -- the end
    have put : ∀ (g : AH) (sd : Int) (b : Int) (x y : Option AV), (∀ c, c ≠ 19 → c ≠ 20 → g c = h c) → g 19 3 = ((cr_l rg m).length : Int) → (∀ j, j < (cr_l rg m).length → g 20 j = (cr_l rg m).getD j 0) → ((rs rg m ∧ b = 1) ∨ (¬ rs rg m ∧ b = 0)) → J 132 [some (.inr (.inr 19)), some (.inl sd), x, y] [.inl b, .inr (.inr 19)] g := by
      intro g sd b x y hg e3 e20 hb
      have g17 : g 17 3 = h 17 3 := by rw [hg 17 (by decide) (by decide)]
      repeat (first | refine hJ _ _ _ _ ?_ | refine And.intro (by omega) (fun _ => ?_) | refine And.intro (by omega) ?_ | refine And.intro (fun _ => ?_) (by omega))
      refine hnew hv _ (fun c c1 c2 => ?_) ?_ ⟨?_, fun j hj => ?_, ?_⟩
      · rw [am_up_o c1, am_up_o c1]; exact hg c c1 c2
      · rw [← g17]; simp [am_up]
      · rw [← e3]; simp [am_up]
      · rw [am_up_o (by decide), am_up_o (by decide)]; exact e20 j hj
      · have e4 : am_up (am_up g 19 4 b) 19 5 (am_up g 19 4 b 17 3) 19 4 = b := by simp [am_up]
        rw [e4]; exact hb
    have fin : ∀ (g : AH) (sd : Int) (x y : Option AV), ((3 ≤ m ∧ sd = (m : Int)) ∨ (m < 3 ∧ sd = 0)) → (∀ c, c ≠ 19 → c ≠ 20 → g c = h c) → g 19 3 = ((cr_l rg m).length : Int) → (∀ j, j < (cr_l rg m).length → g 20 j = (cr_l rg m).getD j 0) → J 105 [some (.inr (.inr 19)), some (.inl sd), x, y] [] g := by
      intro g sd x y hs hg e3 e20
      have hlen := cr_len_le (rg := rg) m40
      rcases hs with ⟨h3, rfl⟩ | ⟨h3, rfl⟩
      · by_cases hl : (cr_l rg m).length = 0
        · have hnil : cr_l rg m = [] := List.length_eq_zero_iff.mp hl
          have hno := (cr_nil h3).mp hnil
          have H2 : pd_ok g := pd_ok_cg H (hg 2 (by decide) (by decide)) (hg 3 (by decide) (by decide))
          have K2 : rk g m rg := rk_cg K (hg 17 (by decide) (by decide)) (hg 18 (by decide) (by decide)) (hg 2 (by decide) (by decide)) (hg 3 (by decide) (by decide))
          repeat (first | refine hJ _ _ _ _ ?_ | refine And.intro (by omega) (fun _ => ?_) | refine And.intro (by omega) ?_ | refine And.intro (fun _ => ?_) (by omega))
          refine s_Ro_apart H2 K2 (fun ga => ?_) (fun ga => ?_)
          · repeat (first | exact put g _ 1 _ _ hg e3 e20 (.inl ⟨⟨h3, fun i k g1 g2 => ⟨ga i k g1 g2, hno i k g1 g2⟩⟩, rfl⟩) | refine hJ _ _ _ _ ?_ | refine And.intro (by omega) (fun _ => ?_) | refine And.intro (by omega) ?_ | refine And.intro (fun _ => ?_) (by omega))
          · repeat (first | exact put g _ 0 _ _ hg e3 e20 (.inr ⟨fun q => ga (fun i k g1 g2 => (q.2 i k g1 g2).1), rfl⟩) | refine hJ _ _ _ _ ?_ | refine And.intro (by omega) (fun _ => ?_) | refine And.intro (by omega) ?_ | refine And.intro (fun _ => ?_) (by omega))
        · have hns : ¬ rs rg m := fun q => hl (by rw [(cr_nil h3).mpr (fun i k g1 g2 => (q.2 i k g1 g2).2)]; rfl)
          repeat (first | exact put g _ 0 _ _ hg e3 e20 (.inr ⟨hns, rfl⟩) | refine hJ _ _ _ _ ?_ | refine And.intro (by omega) (fun _ => ?_) | refine And.intro (by omega) ?_ | refine And.intro (fun _ => ?_) (by omega))
      · have hns : ¬ rs rg m := fun q => by have := q.1; omega
        repeat (first | exact put g _ 0 _ _ hg e3 e20 (.inr ⟨hns, rfl⟩) | refine hJ _ _ _ _ ?_ | refine And.intro (by omega) (fun _ => ?_) | refine And.intro (by omega) ?_ | refine And.intro (fun _ => ?_) (by omega))
    have e172n : am_up h 19 3 0 17 2 = (m : Int) := hm
    by_cases h3 : m < 3
    · have el := cr_l_0 (rg := rg) h3
      repeat (first | refine fin _ _ _ _ (.inr ⟨h3, rfl⟩) ?_ ?_ ?_ | refine hJ _ _ _ _ ?_ | refine And.intro (by omega) (fun _ => ?_) | refine And.intro (by omega) ?_ | refine And.intro (fun _ => ?_) (by omega))
      · intro c c1 c2
        rw [am_up_o c1]
      · rw [el]; simp [am_up]
      · rw [el]; intro j hj; exact absurd hj (Nat.not_lt_zero _)
    · have outer : ∀ d i : Nat, ∀ (g : AH) (x : Option AV), i + d = m → (∀ c, c ≠ 19 → c ≠ 20 → g c = h c) → g 19 3 = ((fo (cr_o rg m) [] 0 i).length : Int) → (∀ j, j < (fo (cr_o rg m) [] 0 i).length → g 20 j = (fo (cr_o rg m) [] 0 i).getD j 0) → J 45 [some (.inr (.inr 19)), some (.inl (m : Int)), some (.inl (i : Int)), x] [] g := by
        intro d
        induction d with
        | zero =>
          intro i g x hi hg e3 e20
          have ei : i = m := by omega
          rw [ei, ← cr_l_3 (by omega)] at e3 e20
          repeat (first | exact fin g _ _ _ (.inl ⟨by omega, rfl⟩) hg e3 e20 | refine hJ _ _ _ _ ?_ | refine And.intro (by omega) (fun _ => ?_) | refine And.intro (by omega) ?_ | refine And.intro (fun _ => ?_) (by omega))
        | succ d oih =>
          intro i g x hi hg e3 e20
          have inner : ∀ e k : Nat, ∀ g : AH, k + e = m → i < k → (∀ c, c ≠ 19 → c ≠ 20 → g c = h c) → g 19 3 = ((cr_p rg m i k).length : Int) → (∀ j, j < (cr_p rg m i k).length → g 20 j = (cr_p rg m i k).getD j 0) → J 54 [some (.inr (.inr 19)), some (.inl (m : Int)), some (.inl (i : Int)), some (.inl (k : Int))] [] g := by
            intro e
            induction e with
            | zero =>
              intro k g hk hik hg e3 e20
              have ek : k = m := by omega
              rw [ek, cr_p_m] at e3 e20
              repeat (first | exact oih (i + 1) g _ (by omega) hg e3 e20 | refine hJ _ _ _ _ ?_ | refine And.intro (by omega) (fun _ => ?_) | refine And.intro (by omega) ?_ | refine And.intro (fun _ => ?_) (by omega))
            | succ e ih =>
              intro k g hk hik hg e3 e20
              have hlt := cr_len_lt (rg := rg) m40 hik (show k < m by omega)
              have H2 : pd_ok g := pd_ok_cg H (hg 2 (by decide) (by decide)) (hg 3 (by decide) (by decide))
              have K2 : rk g m rg := rk_cg K (hg 17 (by decide) (by decide)) (hg 18 (by decide) (by decide)) (hg 2 (by decide) (by decide)) (hg 3 (by decide) (by decide))
              repeat (first | refine hJ _ _ _ _ ?_ | refine And.intro (by omega) (fun _ => ?_) | refine And.intro (by omega) ?_ | refine And.intro (fun _ => ?_) (by omega))
              refine s_Cr_doCross H2 K2 (by omega) (by omega) (fun hb => ?_) (fun hb => ?_)
              · have et : (g 19 3).toNat = (cr_p rg m i k).length := by omega
                have e193 : am_up g 20 (g 19 3).toNat (64 * (i : Int) + k) 19 3 = g 19 3 := rfl
                repeat (first | refine ih (k + 1) _ (by omega) (by omega) ?_ ?_ ?_ | refine hJ _ _ _ _ ?_ | refine And.intro (by omega) (fun _ => ?_) | refine And.intro (by omega) ?_ | refine And.intro (fun _ => ?_) (by omega))
                · intro c c1 c2
                  rw [am_up_o c1, am_up_o c2]
                  exact hg c c1 c2
                · rw [cr_p_t hik hb, List.length_append]
                  simp [am_up, e3]
                · rw [cr_p_t hik hb, List.length_append]
                  intro j hj
                  rw [am_up_o (by decide), et]
                  by_cases ej : j = (cr_p rg m i k).length
                  · subst ej
                    rw [getD_r]
                    simp [am_up]
                  · have hj2 : j < (cr_p rg m i k).length := by
                      have hj3 : j < (cr_p rg m i k).length + 1 := hj
                      omega
                    rw [getD_l hj2, ← e20 j hj2]
                    simp [am_up, ej]
              · rw [← cr_p_f hik hb] at e3 e20
                repeat (first | exact ih (k + 1) g (by omega) (by omega) hg e3 e20 | refine hJ _ _ _ _ ?_ | refine And.intro (by omega) (fun _ => ?_) | refine And.intro (by omega) ?_ | refine And.intro (fun _ => ?_) (by omega))
          rw [← cr_p_0 rg m (Nat.le_refl (i + 1))] at e3 e20
          repeat (first | exact inner (m - (i + 1)) (i + 1) g (by omega) (by omega) hg e3 e20 | refine hJ _ _ _ _ ?_ | refine And.intro (by omega) (fun _ => ?_) | refine And.intro (by omega) ?_ | refine And.intro (fun _ => ?_) (by omega))
      have e172 : am_up h 19 3 0 17 2 = h 17 2 := rfl
      have e172m : am_up h 19 3 0 17 2 = (m : Int) := hm
      have this := outer m 0 (am_up h 19 3 0) none (by omega) (fun c c1 c2 => am_up_o c1) (by simp [am_up]; rfl) (fun j hj => absurd hj (Nat.not_lt_zero _))
      rw [← e172m] at this
      repeat (first | exact this | refine hJ _ _ _ _ ?_ | refine And.intro (by omega) (fun _ => ?_) | refine And.intro (by omega) ?_ | refine And.intro (fun _ => ?_) (by omega))
  · repeat (first | refine hJ _ _ _ _ ?_ | refine And.intro (by omega) (fun _ => ?_) | refine And.intro (by omega) ?_ | refine And.intro (fun _ => ?_) (by omega))
    exact hsame hv
set_option maxRecDepth 20000 in
set_option maxHeartbeats 2000000 in
theorem s_Ro_sumRound {E : AE} {l : Launch} {h : AH} (H : pd_ok h) {m : Nat} {rg : Nat → ge_P} (K : rk h m rg) {Q : AR} (hQ : Q (some (.inr (.inl (if m < 3 then 0 else ro rg m)))) h) : am_g E l 71 [.inr (.inr 17)] h Q := by
  obtain ⟨hm, m40, hr⟩ := K
  refine am_met T_Ro_sumRound (by decide) (Nat.le_of_ble_eq_true rfl) (fun J hJ => ?_)
  have loop : ∀ d k : Nat, ∀ (acc : Int), 3 ≤ m → k + d = m → acc = su (fun i => ge_r (rg i) (rg (nx m i))) 0 k → J 14 [some (.inr (.inr 17)), some (.inr (.inl acc)), none, some (.inl (k : Int))] [] h := by
    intro d
    induction d with
    | zero =>
      intro k acc h3 hk ha
      have : k = m := by omega
      subst this
      repeat (first | refine hJ _ _ _ _ ?_ | refine And.intro (by omega) (fun _ => ?_) | refine And.intro (by omega) ?_ | refine And.intro (fun _ => ?_) (by omega))
      rw [if_neg (by omega)] at hQ
      rw [ha]
      exact hQ
    | succ d ih =>
      intro k acc h3 hk ha
      have wk : 0 ≤ h 18 (Int.toNat (k : Int)) ∧ h 18 (Int.toNat (k : Int)) < 60 ∧ pd_p h (h 18 (Int.toNat (k : Int))) = rg k := hr k (by omega)
      have wn := hr (nx m k) (nx_lt (by omega))
      repeat (first | refine hJ _ _ _ _ ?_ | refine And.intro (by omega) (fun _ => ?_) | refine And.intro (by omega) ?_ | refine And.intro (fun _ => ?_) (by omega))
      refine s_Ro_pointAfter hm m40 (by omega) ?_
      repeat (first | refine hJ _ _ _ _ ?_ | refine And.intro (by omega) (fun _ => ?_) | refine And.intro (by omega) ?_ | refine And.intro (fun _ => ?_) (by omega))
      refine s_Po_roundProduct H wk.1 (Int.lt_trans wk.2.1 (by decide)) wn.1 (Int.lt_trans wn.2.1 (by decide)) ?_
      rw [wk.2.2, wn.2.2]
      repeat (first | exact ih (k + 1) _ h3 (by omega) (by rw [su_s (by omega)]; omega) | refine hJ _ _ _ _ ?_ | refine And.intro (by omega) (fun _ => ?_) | refine And.intro (by omega) ?_ | refine And.intro (fun _ => ?_) (by omega))
  by_cases h3 : m < 3
  · rw [if_pos h3] at hQ
    repeat (first | refine hJ _ _ _ _ ?_ | refine And.intro (by omega) (fun _ => ?_) | refine And.intro (by omega) ?_ | refine And.intro (fun _ => ?_) (by omega))
    exact hQ
  · repeat (first | exact loop m 0 _ (by omega) (by omega) (by rw [su_0 (by omega)]) | refine hJ _ _ _ _ ?_ | refine And.intro (by omega) (fun _ => ?_) | refine And.intro (by omega) ?_ | refine And.intro (fun _ => ?_) (by omega))
