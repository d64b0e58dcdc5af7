/-! the class: the walk round a hull -/
theorem hu_w_b (pt : Nat → ge_P) (mk : Nat → Bool) (n k : Nat) : hu_w pt mk n k = -1 ∨ (0 ≤ hu_w pt mk n k ∧ hu_w pt mk n k < n) := by
  by_cases h : 0 ≤ hu_w pt mk n k
  · have := (hu_w_ok pt mk n k h).1
    exact .inr ⟨h, by omega⟩
  · left
    cases k with
    | zero =>
      have e : hu_w pt mk n 0 = hu_1 pt mk n := rfl
      have := hu_1_b pt mk n
      omega
    | succ k =>
      have e : hu_w pt mk n (k + 1) = if hu_w pt mk n k < 0 ∨ hu_f pt mk (pt (hu_w pt mk n k).toNat) n < 0 ∨ pt (hu_f pt mk (pt (hu_w pt mk n k).toNat) n).toNat = pt (hu_1 pt mk n).toNat then -1 else hu_f pt mk (pt (hu_w pt mk n k).toNat) n := rfl
      have := hu_f_b pt mk (pt (hu_w pt mk n k).toNat) n
      rw [e] at h ⊢
      split
      · rfl
      · rename_i hc
        rw [if_neg hc] at h
        omega
/-- the next of the walk, by the number alone -/
theorem hu_w_num {pt : Nat → ge_P} {mk : Nat → Bool} {n k : Nat} (h : 0 ≤ hu_w pt mk n k) : hu_w pt mk n (k + 1) = if hu_f pt mk (pt (hu_w pt mk n k).toNat) n = hu_w pt mk n 0 then -1 else hu_f pt mk (pt (hu_w pt mk n k).toNat) n := by
  have e : hu_w pt mk n (k + 1) = if hu_w pt mk n k < 0 ∨ hu_f pt mk (pt (hu_w pt mk n k).toNat) n < 0 ∨ pt (hu_f pt mk (pt (hu_w pt mk n k).toNat) n).toNat = pt (hu_1 pt mk n).toNat then -1 else hu_f pt mk (pt (hu_w pt mk n k).toNat) n := rfl
  have e0 : hu_w pt mk n 0 = hu_1 pt mk n := rfl
  have hb := hu_f_b pt mk (pt (hu_w pt mk n k).toNat) n
  by_cases h1 : hu_w pt mk n (k + 1) < 0
  · rcases hu_w_last h h1 with g | g
    · have h9 := hu_w_b pt mk n (k + 1)
      split
      · omega
      · omega
    · rw [if_pos g]
      have h9 := hu_w_b pt mk n (k + 1)
      omega
  · have h2 : 0 ≤ hu_w pt mk n (k + 1) := by omega
    obtain ⟨-, g2, g3⟩ := hu_w_back h2
    rw [if_neg]
    · exact g2
    · intro g
      rw [← g2] at g
      exact g3 (by rw [g])
/-- the heap with k corners found -/
def pd_wr (h : AH) (c : Nat) (w : Nat → Int) (k : Nat) : AH := fun q j => if q = c ∧ j = 3 then (k : Int) else if q = c + 2 ∧ j < k then w j else h q j
theorem pd_wr_step {h : AH} {c : Nat} {w : Nat → Int} {k : Nat} : am_up (am_up (pd_wr h c w k) (c + 2) k (w k)) c 3 ((k : Int) + 1) = pd_wr h c w (k + 1) := by
  funext q j
  simp only [am_up, pd_wr]
  grind
theorem pd_wr_q {h : AH} {c : Nat} (hc : c = 4 ∨ c = 14) {w : Nat → Int} {k : Nat} : pd_q (pd_wr h c w k) = pd_q h := by
  funext i
  unfold pd_q pd_wr
  rcases hc with rfl | rfl <;> simp
theorem pd_wr_m {h : AH} {c : Nat} {w : Nat → Int} {k : Nat} : pd_m (pd_wr h c w k) c = pd_m h c := by
  funext i
  unfold pd_m pd_wr
  simp
theorem pd_wr_ok {h : AH} {c : Nat} (hc : c = 4 ∨ c = 14) {w : Nat → Int} {k : Nat} (H : pd_ok h) : pd_ok (pd_wr h c w k) := by
  intro i hi
  have := H i hi
  unfold pd_wr
  rcases hc with rfl | rfl <;> simpa using this
theorem pd_wr_lo {h : AH} {c : Nat} {w : Nat → Int} {k : Nat} (H : pd_lo h c) : pd_lo (pd_wr h c w k) c := by
  intro i hi
  have := H i hi
  unfold pd_wr
  simpa using this
theorem pd_p_q (h : AH) (i : Int) : pd_p h i = pd_q h i.toNat := rfl
set_option maxRecDepth 20000 in
set_option maxHeartbeats 2000000 in
theorem s_Hu_wrap {E : AE} {l : Launch} {h : AH} {c : Nat} (hc : c = 4 ∨ c = 14) (H : pd_ok h) (hm : pd_lo h c) {n : Nat} (hn : h 1 2 = (n : Int)) (hn2 : n ≤ 60) {Q : AR} (hQ : ∀ m : Nat, m ≤ n → hu_w (pd_q h) (pd_m h c) n m < 0 → (∀ j, j < m → 0 ≤ hu_w (pd_q h) (pd_m h c) n j) → Q none (pd_wr h c (hu_w (pd_q h) (pd_m h c) n) m)) : am_g E l 15 [.inr (.inr c)] h Q := by
  have hend := hu_w_end (pd_q h) (pd_m h c) n
  have hwb := hu_w_b (pd_q h) (pd_m h c) n
  rcases hc with rfl | rfl
  · refine am_met T_Hu_wrap (by decide) (Nat.le_of_ble_eq_true rfl) (fun J hJ => ?_)
    have loop : ∀ d k : Nat, k + d = 60 → k ≤ n → (∀ j, j < k → 0 ≤ hu_w (pd_q h) (pd_m h 4) n j) → J 14 [some (.inr (.inr 4)), some (.inl (hu_w (pd_q h) (pd_m h 4) n 0)), some (.inl (hu_w (pd_q h) (pd_m h 4) n k)), some (.inl (k : Int))] [] (pd_wr h 4 (hu_w (pd_q h) (pd_m h 4) n) k) := by
      intro d
      induction d with
      | zero =>
        intro k hk hkn hj
        have : k = n := by omega
        subst this
        repeat (first | refine hJ _ _ _ _ ?_ | refine And.intro (by omega) (fun _ => ?_) | refine And.intro (by omega) ?_ | refine And.intro (fun _ => ?_) (by omega))
        exact hQ k (Nat.le_refl _) hend hj
      | succ d ih =>
        intro k hk hkn hj
        have hb := hwb k
        have hb0 := hwb 0
        repeat (first | refine hJ _ _ _ _ ?_ | refine And.intro (by omega) (fun _ => ?_) | refine And.intro (by omega) ?_ | refine And.intro (fun _ => ?_) (by omega))
        refine And.intro (fun hx => ?_) (fun hx => ?_)
        · repeat (first | refine hJ _ _ _ _ ?_ | refine And.intro (by omega) (fun _ => ?_) | refine And.intro (by omega) ?_ | refine And.intro (fun _ => ?_) (by omega))
          exact hQ k hkn (by omega) hj
        · have hk0 : 0 ≤ hu_w (pd_q h) (pd_m h 4) n k := by omega
          have hkn' : k < n := by
            rcases (show k = n ∨ k < n by omega) with g | g
            · subst g; omega
            · exact g
          have hsz : pd_wr h 4 (hu_w (pd_q h) (pd_m h 4) n) k 4 3 = (k : Int) := by simp [pd_wr]
          have hnum := hu_w_num hk0
          have hj' : ∀ j, j < k + 1 → 0 ≤ hu_w (pd_q h) (pd_m h 4) n j := fun j h1 => by
            rcases (show j = k ∨ j < k by omega) with g | g
            · subst g; exact hk0
            · exact hj j g
          have hnx := ih (k + 1) (by omega) (by omega) hj'
          have e0 : (am_up (am_up (pd_wr h 4 (hu_w (pd_q h) (pd_m h 4) n) k) 6 (pd_wr h 4 (hu_w (pd_q h) (pd_m h 4) n) k 4 3).toNat (hu_w (pd_q h) (pd_m h 4) n k)) 4 3 (am_up (pd_wr h 4 (hu_w (pd_q h) (pd_m h 4) n) k) 6 (pd_wr h 4 (hu_w (pd_q h) (pd_m h 4) n) k 4 3).toNat (hu_w (pd_q h) (pd_m h 4) n k) 4 3 + 1)) = pd_wr h 4 (hu_w (pd_q h) (pd_m h 4) n) (k + 1) := by
            have e1 : am_up (pd_wr h 4 (hu_w (pd_q h) (pd_m h 4) n) k) 6 (pd_wr h 4 (hu_w (pd_q h) (pd_m h 4) n) k 4 3).toNat (hu_w (pd_q h) (pd_m h 4) n k) 4 3 = (k : Int) := by simp [am_up, pd_wr]
            rw [e1, hsz]
            exact pd_wr_step (c := 4)
          repeat (first | refine hJ _ _ _ _ ?_ | refine And.intro (by omega) (fun _ => ?_) | refine And.intro (by omega) ?_ | refine And.intro (fun _ => ?_) (by omega))
          rw [e0]
          have en : pd_wr h 4 (hu_w (pd_q h) (pd_m h 4) n) (k + 1) 1 2 = (n : Int) := by rw [← hn]; simp [pd_wr]
          refine s_Hu_cornerBehind (.inl rfl) (pd_wr_ok (.inl rfl) H) (pd_wr_lo hm) en hn2 hk0 (by omega) ?_
          rw [pd_wr_q (.inl rfl), pd_wr_m, pd_p_q, pd_wr_q (.inl rfl)]
          have hfb := hu_f_b (pd_q h) (pd_m h 4) (pd_q h (hu_w (pd_q h) (pd_m h 4) n k).toNat) n
          have this := hnx
          rw [hnum] at this
          repeat (first | refine hJ _ _ _ _ ?_ | refine And.intro (by omega) (fun _ => ?_) | refine And.intro (by omega) ?_ | refine And.intro (fun _ => ?_) (by omega))
          refine And.intro (fun hy => ?_) (fun hy => ?_)
          · rw [if_neg hy] at this
            repeat (first | exact this | refine hJ _ _ _ _ ?_ | refine And.intro (by omega) (fun _ => ?_) | refine And.intro (by omega) ?_ | refine And.intro (fun _ => ?_) (by omega))
          · rw [if_pos hy] at this
            repeat (first | exact this | refine hJ _ _ _ _ ?_ | refine And.intro (by omega) (fun _ => ?_) | refine And.intro (by omega) ?_ | refine And.intro (fun _ => ?_) (by omega))
    have e9 : am_up h 4 3 0 = pd_wr h 4 (hu_w (pd_q h) (pd_m h 4) n) 0 := by
      funext q j
      simp only [am_up, pd_wr]
      grind
    repeat (first | refine hJ _ _ _ _ ?_ | refine And.intro (by omega) (fun _ => ?_) | refine And.intro (by omega) ?_ | refine And.intro (fun _ => ?_) (by omega))
    rw [e9]
    have en : pd_wr h 4 (hu_w (pd_q h) (pd_m h 4) n) 0 1 2 = (n : Int) := by rw [← hn]; simp [pd_wr]
    refine s_Hu_lowest (.inl rfl) (pd_wr_ok (.inl rfl) H) (pd_wr_lo hm) en hn2 ?_
    rw [pd_wr_q (.inl rfl), pd_wr_m]
    have this := loop 60 0 (by omega) (by omega) (fun j hj => by omega)
    repeat (first | exact this | refine hJ _ _ _ _ ?_ | refine And.intro (by omega) (fun _ => ?_) | refine And.intro (by omega) ?_ | refine And.intro (fun _ => ?_) (by omega))
  · refine am_met T_Hu_wrap (by decide) (Nat.le_of_ble_eq_true rfl) (fun J hJ => ?_)
    have loop : ∀ d k : Nat, k + d = 60 → k ≤ n → (∀ j, j < k → 0 ≤ hu_w (pd_q h) (pd_m h 14) n j) → J 14 [some (.inr (.inr 14)), some (.inl (hu_w (pd_q h) (pd_m h 14) n 0)), some (.inl (hu_w (pd_q h) (pd_m h 14) n k)), some (.inl (k : Int))] [] (pd_wr h 14 (hu_w (pd_q h) (pd_m h 14) n) k) := by
      intro d
      induction d with
      | zero =>
        intro k hk hkn hj
        have : k = n := by omega
        subst this
        repeat (first | refine hJ _ _ _ _ ?_ | refine And.intro (by omega) (fun _ => ?_) | refine And.intro (by omega) ?_ | refine And.intro (fun _ => ?_) (by omega))
        exact hQ k (Nat.le_refl _) hend hj
      | succ d ih =>
        intro k hk hkn hj
        have hb := hwb k
        have hb0 := hwb 0
        repeat (first | refine hJ _ _ _ _ ?_ | refine And.intro (by omega) (fun _ => ?_) | refine And.intro (by omega) ?_ | refine And.intro (fun _ => ?_) (by omega))
        refine And.intro (fun hx => ?_) (fun hx => ?_)
        · repeat (first | refine hJ _ _ _ _ ?_ | refine And.intro (by omega) (fun _ => ?_) | refine And.intro (by omega) ?_ | refine And.intro (fun _ => ?_) (by omega))
          exact hQ k hkn (by omega) hj
        · have hk0 : 0 ≤ hu_w (pd_q h) (pd_m h 14) n k := by omega
          have hkn' : k < n := by
            rcases (show k = n ∨ k < n by omega) with g | g
            · subst g; omega
            · exact g
          have hsz : pd_wr h 14 (hu_w (pd_q h) (pd_m h 14) n) k 14 3 = (k : Int) := by simp [pd_wr]
          have hnum := hu_w_num hk0
          have hj' : ∀ j, j < k + 1 → 0 ≤ hu_w (pd_q h) (pd_m h 14) n j := fun j h1 => by
            rcases (show j = k ∨ j < k by omega) with g | g
            · subst g; exact hk0
            · exact hj j g
          have hnx := ih (k + 1) (by omega) (by omega) hj'
          have e0 : (am_up (am_up (pd_wr h 14 (hu_w (pd_q h) (pd_m h 14) n) k) 16 (pd_wr h 14 (hu_w (pd_q h) (pd_m h 14) n) k 14 3).toNat (hu_w (pd_q h) (pd_m h 14) n k)) 14 3 (am_up (pd_wr h 14 (hu_w (pd_q h) (pd_m h 14) n) k) 16 (pd_wr h 14 (hu_w (pd_q h) (pd_m h 14) n) k 14 3).toNat (hu_w (pd_q h) (pd_m h 14) n k) 14 3 + 1)) = pd_wr h 14 (hu_w (pd_q h) (pd_m h 14) n) (k + 1) := by
            have e1 : am_up (pd_wr h 14 (hu_w (pd_q h) (pd_m h 14) n) k) 16 (pd_wr h 14 (hu_w (pd_q h) (pd_m h 14) n) k 14 3).toNat (hu_w (pd_q h) (pd_m h 14) n k) 14 3 = (k : Int) := by simp [am_up, pd_wr]
            rw [e1, hsz]
            exact pd_wr_step (c := 14)
          repeat (first | refine hJ _ _ _ _ ?_ | refine And.intro (by omega) (fun _ => ?_) | refine And.intro (by omega) ?_ | refine And.intro (fun _ => ?_) (by omega))
          rw [e0]
          have en : pd_wr h 14 (hu_w (pd_q h) (pd_m h 14) n) (k + 1) 1 2 = (n : Int) := by rw [← hn]; simp [pd_wr]
          refine s_Hu_cornerBehind (.inr rfl) (pd_wr_ok (.inr rfl) H) (pd_wr_lo hm) en hn2 hk0 (by omega) ?_
          rw [pd_wr_q (.inr rfl), pd_wr_m, pd_p_q, pd_wr_q (.inr rfl)]
          have hfb := hu_f_b (pd_q h) (pd_m h 14) (pd_q h (hu_w (pd_q h) (pd_m h 14) n k).toNat) n
          have this := hnx
          rw [hnum] at this
          repeat (first | refine hJ _ _ _ _ ?_ | refine And.intro (by omega) (fun _ => ?_) | refine And.intro (by omega) ?_ | refine And.intro (fun _ => ?_) (by omega))
          refine And.intro (fun hy => ?_) (fun hy => ?_)
          · rw [if_neg hy] at this
            repeat (first | exact this | refine hJ _ _ _ _ ?_ | refine And.intro (by omega) (fun _ => ?_) | refine And.intro (by omega) ?_ | refine And.intro (fun _ => ?_) (by omega))
          · rw [if_pos hy] at this
            repeat (first | exact this | refine hJ _ _ _ _ ?_ | refine And.intro (by omega) (fun _ => ?_) | refine And.intro (by omega) ?_ | refine And.intro (fun _ => ?_) (by omega))
    have e9 : am_up h 14 3 0 = pd_wr h 14 (hu_w (pd_q h) (pd_m h 14) n) 0 := by
      funext q j
      simp only [am_up, pd_wr]
      grind
    repeat (first | refine hJ _ _ _ _ ?_ | refine And.intro (by omega) (fun _ => ?_) | refine And.intro (by omega) ?_ | refine And.intro (fun _ => ?_) (by omega))
    rw [e9]
    have en : pd_wr h 14 (hu_w (pd_q h) (pd_m h 14) n) 0 1 2 = (n : Int) := by rw [← hn]; simp [pd_wr]
    refine s_Hu_lowest (.inr rfl) (pd_wr_ok (.inr rfl) H) (pd_wr_lo hm) en hn2 ?_
    rw [pd_wr_q (.inr rfl), pd_wr_m]
    have this := loop 60 0 (by omega) (by omega) (fun j hj => by omega)
    repeat (first | exact this | refine hJ _ _ _ _ ?_ | refine And.intro (by omega) (fun _ => ?_) | refine And.intro (by omega) ?_ | refine And.intro (fun _ => ?_) (by omega))
