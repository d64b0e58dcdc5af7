/-! calls: beside, turn -/
abbrev an_bs (pt : Nat → ge_P) (n i j : Nat) (w : Int) : Int := su (fun p => if sg (ge_x (pt i) (pt j) (pt p)) = w then 1 else 0) 0 n
abbrev an_beside (pt : Nat → ge_P) (n i j : Nat) (w : Int) : Int := if (w < -1 ∨ 1 < w) ∨ pt i = pt j then -1 else an_bs pt n i j w
theorem sg_r (v : Int) : -1 ≤ sg v ∧ sg v ≤ 1 := by
  rcases sg_v v with ⟨-, e⟩ | ⟨-, e⟩ | ⟨-, e⟩ <;> rw [e] <;> decide
set_option maxRecDepth 20000 in
set_option maxHeartbeats 2000000 in
theorem c_beside {E : AE} {l : Launch} {k n m : Nat} {pt : Nat → ge_P} {rt : Nat → Nat} {rg : Nat → ge_P} {h : AH} (C : ic k n m pt rt rg h) {i j : Nat} (hi : i < n) (hj : j < n) {w : Int} (hw : lo_r w) : am_g E l 52 [.inr (.inr 0), .inl (i : Int), .inl (j : Int), .inl w] h (cq (k + 1) n m pt rt rg h (some (.inl (an_beside pt n i j w)))) := by
  have hC : ∀ v, cq (k + 1) n m pt rt rg h v v h := fun v => ⟨rfl, fun _ _ => rfl, ic_mono C (by omega)⟩
  have p1 := C.1.1
  have p2 := C.1.2.1
  have H := C.1.2.2.1
  have ep := fun (i : Nat) (hi : i < n) => ic_p C (i := (i : Int)) (by omega) (by omega)
  have ei : pd_p h (i : Int) = pt i := ep i hi
  have ej : pd_p h (j : Int) = pt j := ep j hj
  have hno : (w < -1 ∨ 1 < w) ∨ pt i = pt j → cq (k + 1) n m pt rt rg h (some (.inl (an_beside pt n i j w))) (some (.inl (-1))) h := fun g => by
    have e : an_beside pt n i j w = -1 := if_pos g
    rw [e]; exact hC _
  refine am_met T_De_beside (by decide) (Nat.le_of_ble_eq_true rfl) (fun J hJ => ?_)
  repeat (first | refine hJ _ _ _ _ ?_ | refine And.intro (by omega) (fun _ => ?_) | refine And.intro (by omega) ?_ | refine And.intro (fun _ => ?_) (by omega))
  refine s_De_requirePoint p1 p2 (by omega) (by omega) ?_
  repeat (first | refine hJ _ _ _ _ ?_ | refine And.intro (by omega) (fun _ => ?_) | refine And.intro (by omega) ?_ | refine And.intro (fun _ => ?_) (by omega))
  refine s_De_requirePoint p1 p2 (by omega) (by omega) ?_
  repeat (first | refine hJ _ _ _ _ ?_ | refine And.intro (by omega) (fun _ => ?_) | refine And.intro (by omega) ?_ | refine And.intro (fun _ => ?_) (by omega))
  refine And.intro (fun hc => ?_) (fun hc => ?_)
  · repeat (first | refine hJ _ _ _ _ ?_ | refine And.intro (by omega) (fun _ => ?_) | refine And.intro (by omega) ?_ | refine And.intro (fun _ => ?_) (by omega))
    exact hno (.inl (.inl hc))
  · repeat (first | refine hJ _ _ _ _ ?_ | refine And.intro (by omega) (fun _ => ?_) | refine And.intro (by omega) ?_ | refine And.intro (fun _ => ?_) (by omega))
    refine And.intro (fun hd => ?_) (fun hd => ?_)
    · repeat (first | refine hJ _ _ _ _ ?_ | refine And.intro (by omega) (fun _ => ?_) | refine And.intro (by omega) ?_ | refine And.intro (fun _ => ?_) (by omega))
      exact hno (.inl (.inr hd))
    · repeat (first | refine hJ _ _ _ _ ?_ | refine And.intro (by omega) (fun _ => ?_) | refine And.intro (by omega) ?_ | refine And.intro (fun _ => ?_) (by omega))
      refine s_Po_areAtOnePlace H (by omega) (by omega) (by omega) (by omega) (fun hs => ?_) (fun hs => ?_)
      · rw [ei, ej] at hs
        repeat (first | refine hJ _ _ _ _ ?_ | refine And.intro (by omega) (fun _ => ?_) | refine And.intro (by omega) ?_ | refine And.intro (fun _ => ?_) (by omega))
        exact hno (.inr hs)
      · rw [ei, ej] at hs
        have ea : an_beside pt n i j w = an_bs pt n i j w := if_neg (fun g => g.elim (fun g => by omega) hs)
        have e9 : an_beside pt n i j w = su (fun p => if sg (ge_x (pt i) (pt j) (pt p)) = w then 1 else 0) 0 n := ea
        have loop : ∀ d q : Nat, ∀ acc : Int, q + d = n → acc = su (fun p => if sg (ge_x (pt i) (pt j) (pt p)) = w then 1 else 0) 0 q → J 40 [some (.inr (.inr 0)), some (.inl (i : Int)), some (.inl (j : Int)), some (.inl w), some (.inl acc), some (.inl (q : Int))] [] h := by
          intro d
          induction d with
          | zero =>
            intro q acc hq ha
            have : q = n := by omega
            subst this
            repeat (first | refine hJ _ _ _ _ ?_ | refine And.intro (by omega) (fun _ => ?_) | refine And.intro (by omega) ?_ | refine And.intro (fun _ => ?_) (by omega))
            rw [ha, ← e9]
            exact hC _
          | succ d ih =>
            intro q acc hq ha
            have hsg := sg_r (ge_x (pt i) (pt j) (pt q))
            have eq : pd_p h (q : Int) = pt q := ep q (by omega)
            repeat (first | refine hJ _ _ _ _ ?_ | refine And.intro (by omega) (fun _ => ?_) | refine And.intro (by omega) ?_ | refine And.intro (fun _ => ?_) (by omega))
            refine s_Po_hand H (by omega) (by omega) (by omega) (by omega) (by omega) (by omega) ?_
            rw [ei, ej, eq]
            repeat (first | refine hJ _ _ _ _ ?_ | refine And.intro (by omega) (fun _ => ?_) | refine And.intro (by omega) ?_ | refine And.intro (fun _ => ?_) (by omega))
            refine And.intro (fun he => ?_) (fun he => ?_)
            · repeat (first | exact ih (q + 1) _ (by omega) (by rw [su_s (by omega), if_neg he]; omega) | refine hJ _ _ _ _ ?_ | refine And.intro (by omega) (fun _ => ?_) | refine And.intro (by omega) ?_ | refine And.intro (fun _ => ?_) (by omega))
            · repeat (first | exact ih (q + 1) _ (by omega) (by rw [su_s (by omega), if_pos he]; omega) | refine hJ _ _ _ _ ?_ | refine And.intro (by omega) (fun _ => ?_) | refine And.intro (by omega) ?_ | refine And.intro (fun _ => ?_) (by omega))
        repeat (first | exact loop n 0 _ (by omega) (by rw [su_0 (by omega)]) | refine hJ _ _ _ _ ?_ | refine And.intro (by omega) (fun _ => ?_) | refine And.intro (by omega) ?_ | refine And.intro (fun _ => ?_) (by omega))
set_option maxRecDepth 20000 in
set_option maxHeartbeats 2000000 in
theorem s_Mo_signOf {E : AE} {l : Launch} {h : AH} {v : Int} (v1 : -9223372036854775808 ≤ v) (v2 : v < 9223372036854775808) {Q : AR} (hQ : Q (some (.inl (sg v))) h) : am_g E l 127 [.inr (.inl v)] h Q := by
  refine am_met T_Mo_signOf (by decide) (Nat.le_of_ble_eq_true rfl) (fun J hJ => ?_)
  repeat (first | refine hJ _ _ _ _ ?_ | refine And.intro (by omega) (fun _ => ?_) | refine And.intro (by omega) ?_ | refine And.intro (fun _ => ?_) (by omega))
  refine And.intro (fun hc => ?_) (fun hc => ?_)
  · repeat (first | refine hJ _ _ _ _ ?_ | refine And.intro (by omega) (fun _ => ?_) | refine And.intro (by omega) ?_ | refine And.intro (fun _ => ?_) (by omega))
    refine And.intro (fun hd => ?_) (fun hd => ?_)
    · repeat (first | refine hJ _ _ _ _ ?_ | refine And.intro (by omega) (fun _ => ?_) | refine And.intro (by omega) ?_ | refine And.intro (fun _ => ?_) (by omega))
      have e : sg v = 0 := by
        unfold sg
        rw [if_neg (by omega), if_neg (by omega)]
      rw [e] at hQ
      exact hQ
    · repeat (first | refine hJ _ _ _ _ ?_ | refine And.intro (by omega) (fun _ => ?_) | refine And.intro (by omega) ?_ | refine And.intro (fun _ => ?_) (by omega))
      have e : sg v = -1 := by
        unfold sg
        rw [if_neg (by omega), if_pos hd]
      rw [e] at hQ
      exact hQ
  · repeat (first | refine hJ _ _ _ _ ?_ | refine And.intro (by omega) (fun _ => ?_) | refine And.intro (by omega) ?_ | refine And.intro (fun _ => ?_) (by omega))
    have e : sg v = 1 := if_pos hc
    rw [e] at hQ
    exact hQ
set_option maxRecDepth 20000 in
set_option maxHeartbeats 2000000 in
theorem m_beside {E : AE} {l : Launch} {n m : Nat} {pt : Nat → ge_P} {rt : Nat → Nat} {h : AH} (R : ir n m pt rt h) {i j : Nat} (hi : i < n) (hj : j < n) {w : Int} (hw : lo_r w) : am_g E l 128 [.inr (.inr 24), .inl (i : Int), .inl (j : Int), .inl w] h (rq n m pt rt h 0 (some (.inl (an_beside pt n i j w)))) := by
  have hQ : ∀ v, rq n m pt rt h 0 v v (am_up h 24 0 0) := fun v => rq_t R
  have q1 := R.1.1
  have P := (ir_t R (t := 0)).1
  have p1 := P.1
  have p2 := P.2.1
  have e0 : am_up h 24 0 0 24 0 = 0 := rfl
  have hno : (w < -1 ∨ 1 < w) ∨ pt i = pt j → rq n m pt rt h 0 (some (.inl (an_beside pt n i j w))) (some (.inl (-1))) (am_up h 24 0 0) := fun g => by
    have e : an_beside pt n i j w = -1 := if_pos g
    rw [e]; exact hQ _
  refine am_met T_Mo_beside (by decide) (Nat.le_of_ble_eq_true rfl) (fun J hJ => ?_)
  repeat (first | refine hJ _ _ _ _ ?_ | refine And.intro (by omega) (fun _ => ?_) | refine And.intro (by omega) ?_ | refine And.intro (fun _ => ?_) (by omega))
  refine s_Mo_isPoint q1 p2 (by omega) (by omega) (fun _ => ?_) (fun g => absurd (show (0 : Int) ≤ i ∧ (i : Int) < n by omega) g)
  repeat (first | refine hJ _ _ _ _ ?_ | refine And.intro (by omega) (fun _ => ?_) | refine And.intro (by omega) ?_ | refine And.intro (fun _ => ?_) (by omega))
  refine s_Mo_isPoint q1 p2 (by omega) (by omega) (fun _ => ?_) (fun g => absurd (show (0 : Int) ≤ j ∧ (j : Int) < n by omega) g)
  repeat (first | refine hJ _ _ _ _ ?_ | refine And.intro (by omega) (fun _ => ?_) | refine And.intro (by omega) ?_ | refine And.intro (fun _ => ?_) (by omega))
  refine s_Mo_isSame P (by omega) (by omega) (by omega) (by omega) (fun hs => ?_) (fun hs => ?_)
  · repeat (first | refine hJ _ _ _ _ ?_ | refine And.intro (by omega) (fun _ => ?_) | refine And.intro (by omega) ?_ | refine And.intro (fun _ => ?_) (by omega))
    exact hno (.inr hs)
  · repeat (first | refine hJ _ _ _ _ ?_ | refine And.intro (by omega) (fun _ => ?_) | refine And.intro (by omega) ?_ | refine And.intro (fun _ => ?_) (by omega))
    refine And.intro (fun hc => ?_) (fun hc => ?_)
    · repeat (first | refine hJ _ _ _ _ ?_ | refine And.intro (by omega) (fun _ => ?_) | refine And.intro (by omega) ?_ | refine And.intro (fun _ => ?_) (by omega))
      exact hno (.inl (.inl hc))
    · repeat (first | refine hJ _ _ _ _ ?_ | refine And.intro (by omega) (fun _ => ?_) | refine And.intro (by omega) ?_ | refine And.intro (fun _ => ?_) (by omega))
      refine And.intro (fun hd => ?_) (fun hd => ?_)
      · have ea : an_beside pt n i j w = an_bs pt n i j w := if_neg (fun g => g.elim (fun g => by omega) hs)
        have e9 : an_beside pt n i j w = su (fun p => if sg (ge_x (pt i) (pt j) (pt p)) = w then 1 else 0) 0 n := ea
        have loop : ∀ d q : Nat, ∀ acc : Int, q + d = n → acc = su (fun p => if sg (ge_x (pt i) (pt j) (pt p)) = w then 1 else 0) 0 q → J 61 [some (.inr (.inr 24)), some (.inl (i : Int)), some (.inl (j : Int)), some (.inl w), some (.inl acc), some (.inl (q : Int))] [] (am_up h 24 0 0) := by
          intro d
          induction d with
          | zero =>
            intro q acc hq ha
            have : q = n := by omega
            subst this
            repeat (first | refine hJ _ _ _ _ ?_ | refine And.intro (by omega) (fun _ => ?_) | refine And.intro (by omega) ?_ | refine And.intro (fun _ => ?_) (by omega))
            rw [ha, ← e9]
            exact hQ _
          | succ d ih =>
            intro q acc hq ha
            have hsg := sg_r (ge_x (pt i) (pt j) (pt q))
            have hb := mp_x (P.2.2.2 i hi) (P.2.2.2 j hj) (P.2.2.2 q (by omega))
            repeat (first | refine hJ _ _ _ _ ?_ | refine And.intro (by omega) (fun _ => ?_) | refine And.intro (by omega) ?_ | refine And.intro (fun _ => ?_) (by omega))
            refine s_Mo_turnOf P (by omega) (by omega) (by omega) (by omega) (by omega) (by omega) ?_
            have et : ge_x (pt (Int.toNat (i : Int))) (pt (Int.toNat (j : Int))) (pt (Int.toNat (q : Int))) = ge_x (pt i) (pt j) (pt q) := rfl
            rw [et]
            repeat (first | refine hJ _ _ _ _ ?_ | refine And.intro (by omega) (fun _ => ?_) | refine And.intro (by omega) ?_ | refine And.intro (fun _ => ?_) (by omega))
            refine s_Mo_signOf (by omega) (by omega) ?_
            repeat (first | refine hJ _ _ _ _ ?_ | refine And.intro (by omega) (fun _ => ?_) | refine And.intro (by omega) ?_ | refine And.intro (fun _ => ?_) (by omega))
            refine And.intro (fun he => ?_) (fun he => ?_)
            · repeat (first | exact ih (q + 1) _ (by omega) (by rw [su_s (by omega), if_neg he]; omega) | refine hJ _ _ _ _ ?_ | refine And.intro (by omega) (fun _ => ?_) | refine And.intro (by omega) ?_ | refine And.intro (fun _ => ?_) (by omega))
            · repeat (first | exact ih (q + 1) _ (by omega) (by rw [su_s (by omega), if_pos he]; omega) | refine hJ _ _ _ _ ?_ | refine And.intro (by omega) (fun _ => ?_) | refine And.intro (by omega) ?_ | refine And.intro (fun _ => ?_) (by omega))
        repeat (first | exact loop n 0 _ (by omega) (by rw [su_0 (by omega)]) | refine hJ _ _ _ _ ?_ | refine And.intro (by omega) (fun _ => ?_) | refine And.intro (by omega) ?_ | refine And.intro (fun _ => ?_) (by omega))
      · repeat (first | refine hJ _ _ _ _ ?_ | refine And.intro (by omega) (fun _ => ?_) | refine And.intro (by omega) ?_ | refine And.intro (fun _ => ?_) (by omega))
        exact hno (.inl (.inr hd))
set_option maxRecDepth 20000 in
set_option maxHeartbeats 2000000 in
theorem m_beside_1 {E : AE} {l : Launch} {n m : Nat} {pt : Nat → ge_P} {rt : Nat → Nat} {h : AH} (R : ir n m pt rt h) {i j w : Int} (hi : lo_r i) (hj : lo_r j) (hb : ¬ ((0 ≤ i ∧ i < n) ∧ (0 ≤ j ∧ j < n))) : am_g E l 128 [.inr (.inr 24), .inl i, .inl j, .inl w] h (rq n m pt rt h 1 (some (.inl 0))) := by
  have hQ : ∀ v, rq n m pt rt h 1 v v (am_up h 24 0 1) := fun v => rq_t R
  have p1 := R.1.1
  have p2 := R.1.2.1
  have e0 : am_up h 24 0 1 24 0 = 1 := rfl
  refine am_met T_Mo_beside (by decide) (Nat.le_of_ble_eq_true rfl) (fun J hJ => ?_)
  repeat (first | refine hJ _ _ _ _ ?_ | refine And.intro (by omega) (fun _ => ?_) | refine And.intro (by omega) ?_ | refine And.intro (fun _ => ?_) (by omega))
  refine s_Mo_isPoint p1 p2 hi.1 hi.2 (fun g1 => ?_) (fun g1 => ?_)
  · repeat (first | refine hJ _ _ _ _ ?_ | refine And.intro (by omega) (fun _ => ?_) | refine And.intro (by omega) ?_ | refine And.intro (fun _ => ?_) (by omega))
    refine s_Mo_isPoint p1 p2 hj.1 hj.2 (fun g2 => absurd ⟨g1, g2⟩ hb) (fun g2 => ?_)
    repeat (first | refine hJ _ _ _ _ ?_ | refine And.intro (by omega) (fun _ => ?_) | refine And.intro (by omega) ?_ | refine And.intro (fun _ => ?_) (by omega))
    exact hQ _
  · repeat (first | refine hJ _ _ _ _ ?_ | refine And.intro (by omega) (fun _ => ?_) | refine And.intro (by omega) ?_ | refine And.intro (fun _ => ?_) (by omega))
    exact hQ _
theorem o_beside {E : AE} {l : Launch} {s : State} (htr : l.stackTraces = false) (h0 : tx_0 s E) {k : Nat} {h : AH} (I : iv k h) : op_beside E l s (iv (k + 1)) h := by
  obtain ⟨n, m, pt, rt, rg, C, R⟩ := I
  intro x hx y hy z hz
  have p1 := C.1.1
  have p2 := C.1.2.1
  by_cases hb : 0 ≤ x ∧ x < n
  · by_cases hw : 0 ≤ y ∧ y < n
    · obtain ⟨i, rfl⟩ : ∃ i : Nat, x = (i : Int) := ⟨x.toNat, by omega⟩
      obtain ⟨j, rfl⟩ : ∃ j : Nat, y = (j : Int) := ⟨y.toNat, by omega⟩
      have b := su_b (g := fun p => if sg (ge_x (pt i) (pt j) (pt p)) = z then (1 : Int) else 0) (s := 0) (e := n) (A := 0) (B := 1) (by decide) (by decide) (fun q _ _ => by
        show 0 ≤ (if sg (ge_x (pt i) (pt j) (pt q)) = z then (1 : Int) else 0) ∧ (if sg (ge_x (pt i) (pt j) (pt q)) = z then (1 : Int) else 0) ≤ 1
        split <;> omega)
      have b2 : -2147483648 ≤ an_beside pt n i j z ∧ an_beside pt n i j z < 2147483648 := by
        unfold an_beside an_bs
        split <;> omega
      exact op_h R b2.1 b2.2 (fun Q hg => hp_beside_0 hg) (c_beside C (by omega) (by omega) hz) (fun h1 R1 => m_beside R1 (by omega) (by omega) hz)
    · exact hp_beside_1 h0 (z_De_beside_2 h0 htr p1 p2 hb.1 hb.2 hy.1 hy.2 hw (op_t R (ic_mono C (by omega)) (fun _ _ => rfl) (by decide) (by decide) (fun h1 R1 => m_beside_1 R1 hx hy (fun g => hw g.2))))
  · exact hp_beside_1 h0 (z_De_beside_1 h0 htr p1 p2 hx.1 hx.2 hb (op_t R (ic_mono C (by omega)) (fun _ _ => rfl) (by decide) (by decide) (fun h1 R1 => m_beside_1 R1 hx hy (fun g => hb g.1))))
/-! turn -/
def rv {α : Type} (f : Nat → α) (i k : Nat) : Nat → α := fun j => if i ≤ j ∧ j ≤ k then f (i + k - j) else f j
/-- after a swaps -/
def rw_ (f : Nat → Int) (i k a : Nat) : Nat → Int := fun j => if (i ≤ j ∧ j < i + a) ∨ (k < j + a ∧ j ≤ k) then f (i + k - j) else f j
theorem rw_0 (f : Nat → Int) (i k : Nat) : rw_ f i k 0 = f := by
  funext j
  exact if_neg (by omega)
theorem rw_end (f : Nat → Int) {i k a : Nat} (h : k ≤ i + a + a) (h2 : i + a + a ≤ k + 1) : rw_ f i k a = rv f i k := by
  funext j
  unfold rw_ rv
  by_cases h1 : i ≤ j ∧ j ≤ k
  · rw [if_pos h1]
    by_cases h3 : (i ≤ j ∧ j < i + a) ∨ (k < j + a ∧ j ≤ k)
    · rw [if_pos h3]
    · rw [if_neg h3, show i + k - j = j by omega]
  · rw [if_neg h1, if_neg (by omega)]
theorem rw_step (h : AH) (c : Nat) (f : Nat → Int) {i k a : Nat} (hc : h c = rw_ f i k a) (hl : i + a + a < k) : (am_up (am_up h c (i + a) (h c (k - a))) c (k - a) (h c (i + a))) c = rw_ f i k (a + 1) := by
  funext j
  have e1 : h c (k - a) = f (k - a) := by rw [hc]; exact if_neg (by omega)
  have e2 : h c (i + a) = f (i + a) := by rw [hc]; exact if_neg (by omega)
  have e3 : h c j = rw_ f i k a j := by rw [hc]
  rw [e1, e2]
  unfold rw_ at *
  simp only [am_up, e3, true_and]
  by_cases j1 : j = k - a
  · subst j1
    rw [if_pos rfl, if_pos (by omega), show i + k - (k - a) = i + a by omega]
  · rw [if_neg j1]
    by_cases j2 : j = i + a
    · subst j2
      rw [if_pos rfl, if_pos (by omega), show i + k - (i + a) = k - a by omega]
    · rw [if_neg j2]
      by_cases j3 : (i ≤ j ∧ j < i + a) ∨ (k < j + a ∧ j ≤ k)
      · rw [if_pos j3, if_pos (by omega)]
      · rw [if_neg j3, if_neg (by omega)]
set_option maxRecDepth 20000 in
set_option maxHeartbeats 2000000 in
theorem s_Ro_reverse {E : AE} {l : Launch} {h : AH} {i k : Nat} (hik : i ≤ k) (hk : k < 40) {Q : AR} (hQ : ∀ g : AH, (∀ c, c ≠ 17 → c ≠ 18 → g c = h c) → (∀ j, j ≠ 3 → g 17 j = h 17 j) → g 17 3 = h 17 3 + 1 → g 18 = rv (h 18) i k → Q none g) : am_g E l 57 [.inr (.inr 17), .inl (i : Int), .inl (k : Int)] h Q := by
  refine am_met T_Ro_reverse (by decide) (Nat.le_of_ble_eq_true rfl) (fun J hJ => ?_)
  have loop : ∀ d a : Nat, ∀ (g : AH) (lo hi : Int) (x : Option AV), k - a = d → lo = (i : Int) + a → hi = (k : Int) - a → i + a + a ≤ k + 1 → (∀ c, c ≠ 18 → g c = h c) → g 18 = rw_ (h 18) i k a → J 5 [some (.inr (.inr 17)), some (.inl (i : Int)), some (.inl (k : Int)), some (.inl lo), some (.inl hi), x] [] g := by
    have fin : ∀ (a : Nat) (g : AH) (lo hi : Int) (x : Option AV), k ≤ i + a + a → i + a + a ≤ k + 1 → (∀ c, c ≠ 18 → g c = h c) → g 18 = rw_ (h 18) i k a → J 50 [some (.inr (.inr 17)), some (.inl (i : Int)), some (.inl (k : Int)), some (.inl lo), some (.inl hi), x] [] g := by
      intro a g lo hi x h1 h2 hg h18
      repeat (first | refine hJ _ _ _ _ ?_ | refine And.intro (by omega) (fun _ => ?_) | refine And.intro (by omega) ?_ | refine And.intro (fun _ => ?_) (by omega))
      refine hQ _ (fun c c1 c2 => ?_) (fun j hj => ?_) ?_ ?_
      · rw [am_up_o c1]; exact hg c c2
      · have : am_up g 17 3 (g 17 3 + 1) 17 j = g 17 j := by simp [am_up, hj]
        rw [this, hg 17 (by decide)]
      · rw [← hg 17 (by decide)]; simp [am_up]
      · rw [am_up_o (by decide), h18, rw_end _ h1 h2]
    intro d
    induction d with
    | zero =>
      intro a g lo hi x hd e1 e2 h1 hg h18
      repeat (first | exact fin a g lo hi x (by omega) h1 hg h18 | refine hJ _ _ _ _ ?_ | refine And.intro (by omega) (fun _ => ?_) | refine And.intro (by omega) ?_ | refine And.intro (fun _ => ?_) (by omega))
    | succ d ih =>
      intro a g lo hi x hd e1 e2 h1 hg h18
      by_cases hl : i + a + a < k
      · have st := rw_step g 18 (h 18) h18 hl
        have t1 : lo.toNat = i + a := by omega
        have t2 : hi.toNat = k - a := by omega
        have hne : am_up g 18 lo.toNat (g 18 hi.toNat) 18 = am_up g 18 lo.toNat (g 18 hi.toNat) 18 := rfl
        repeat (first | refine ih (a + 1) _ _ _ _ (by omega) (by omega) (by omega) (by omega) ?_ ?_ | refine hJ _ _ _ _ ?_ | refine And.intro (by omega) (fun _ => ?_) | refine And.intro (by omega) ?_ | refine And.intro (fun _ => ?_) (by omega))
        · intro c hc
          rw [am_up_o hc, am_up_o hc]
          exact hg c hc
        · rw [t1, t2]
          exact st
      · repeat (first | exact fin a g lo hi x (by omega) h1 hg h18 | refine hJ _ _ _ _ ?_ | refine And.intro (by omega) (fun _ => ?_) | refine And.intro (by omega) ?_ | refine And.intro (fun _ => ?_) (by omega))
  repeat (first | exact loop (k - 0) 0 h _ _ _ rfl (by omega) (by omega) (by omega) (fun _ _ => rfl) (rw_0 _ _ _).symm | refine hJ _ _ _ _ ?_ | refine And.intro (by omega) (fun _ => ?_) | refine And.intro (by omega) ?_ | refine And.intro (fun _ => ?_) (by omega))
set_option maxRecDepth 20000 in
set_option maxHeartbeats 2000000 in
theorem c_turn {E : AE} {l : Launch} {q n m : Nat} {pt : Nat → ge_P} {rt : Nat → Nat} {rg : Nat → ge_P} {h : AH} (C : ic q n m pt rt rg h) {i k : Nat} (hik : i ≤ k) (hk : k < m) : am_g E l 58 [.inr (.inr 0), .inl (i : Int), .inl (k : Int)] h (cq (q + 1) n m pt (rv rt i k) (rv rg i k) h none) := by
  obtain ⟨P, ⟨r1, r2, r3⟩, v, hh, hl, hc, ht⟩ := C
  refine am_met T_De_turn (by decide) (Nat.le_of_ble_eq_true rfl) (fun J hJ => ?_)
  repeat (first | refine hJ _ _ _ _ ?_ | refine And.intro (by omega) (fun _ => ?_) | refine And.intro (by omega) ?_ | refine And.intro (fun _ => ?_) (by omega))
  refine s_Ro_reverse hik (by omega) (fun g o o17 g173 g18 => ?_)
  repeat (first | refine hJ _ _ _ _ ?_ | refine And.intro (by omega) (fun _ => ?_) | refine And.intro (by omega) ?_ | refine And.intro (fun _ => ?_) (by omega))
  refine ⟨rfl, fun c hc => o c (by omega) (by omega), icP_cg P (o _ (by decide) (by decide)) (o _ (by decide) (by decide)) (o _ (by decide) (by decide)), ⟨by rw [o17 2 (by decide)]; exact r1, r2, fun j hj => ?_⟩, ?_, icH_cg hh (o _ (by decide) (by decide)) (o _ (by decide) (by decide)) (o _ (by decide) (by decide)), icL_cg hl (o _ (by decide) (by decide)) (o _ (by decide) (by decide)) (o _ (by decide) (by decide)), ?_, ?_⟩
  · rw [g18]
    unfold rv
    by_cases hj2 : i ≤ j ∧ j ≤ k
    · rw [if_pos hj2, if_pos hj2, if_pos hj2]
      exact r3 _ (by omega)
    · rw [if_neg hj2, if_neg hj2, if_neg hj2]
      exact r3 j hj
  · unfold icV at *
    rw [g173, o 1 (by decide) (by decide)]
    omega
  · unfold icC at *
    rw [g173, o 19 (by decide) (by decide)]
    exact ⟨by omega, by omega, fun q => by omega⟩
  · unfold icT at *
    rw [g173, o 21 (by decide) (by decide)]
    exact ⟨by omega, by omega, fun q => by omega⟩
set_option maxRecDepth 20000 in
set_option maxHeartbeats 2000000 in
theorem m_turn {E : AE} {l : Launch} {n m : Nat} {pt : Nat → ge_P} {rt : Nat → Nat} {h : AH} (R : ir n m pt rt h) (hm : m ≤ 40) {i k : Nat} (hik : i ≤ k) (hk : k < m) : am_g E l 132 [.inr (.inr 24), .inl (i : Int), .inl (k : Int)] h (rq n m pt (rv rt i k) h 0 none) := by
  obtain ⟨P, r1, r2⟩ := R
  have e0 : am_up h 24 0 0 24 0 = 0 := rfl
  refine am_met T_Mo_turn (by decide) (Nat.le_of_ble_eq_true rfl) (fun J hJ => ?_)
  have loop : ∀ d a : Nat, ∀ (g : AH) (x : Option AV), k - a = d → i + a + a ≤ k + 1 → (∀ c, c ≠ 27 → g c = am_up h 24 0 0 c) → g 27 = rw_ (h 27) i k a → J 28 [some (.inr (.inr 24)), some (.inl (i : Int)), some (.inl (k : Int)), some (.inl (a : Int)), x] [] g := by
    have fin : ∀ (a : Nat) (g : AH) (x : Option AV), k ≤ i + a + a → i + a + a ≤ k + 1 → (∀ c, c ≠ 27 → g c = am_up h 24 0 0 c) → g 27 = rw_ (h 27) i k a → J 28 [some (.inr (.inr 24)), some (.inl (i : Int)), some (.inl (k : Int)), some (.inl (a : Int)), x] [] g := by
      intro a g x h1 h2 hg h27
      have g0 : g 24 0 = 0 := by rw [hg 24 (by decide)]; exact e0
      repeat (first | refine hJ _ _ _ _ ?_ | refine And.intro (by omega) (fun _ => ?_) | refine And.intro (by omega) ?_ | refine And.intro (fun _ => ?_) (by omega))
      refine ⟨rfl, fun c hc => ?_, g0, mp_cg P ?_ ?_ ?_, ?_, fun j hj => ?_⟩
      · rw [hg c (by omega), am_up_o (by omega)]
      · rw [hg 24 (by decide)]; rfl
      · rw [hg 25 (by decide)]; rfl
      · rw [hg 26 (by decide)]; rfl
      · rw [hg 24 (by decide)]; exact r1
      · rw [h27, rw_end _ h1 h2]
        unfold rv
        by_cases hj2 : i ≤ j ∧ j ≤ k
        · rw [if_pos hj2, if_pos hj2]
          exact r2 _ (by omega)
        · rw [if_neg hj2, if_neg hj2]
          exact r2 j hj
    intro d
    induction d with
    | zero =>
      intro a g x hd h1 hg h27
      exact fin a g x (by omega) h1 hg h27
    | succ d ih =>
      intro a g x hd h1 hg h27
      by_cases hl : i + a + a < k
      · have st := rw_step g 27 (h 27) h27 hl
        have g0 : g 24 0 = 0 := by rw [hg 24 (by decide)]; exact e0
        have t1 : ((i : Int) + (a : Int)).toNat = i + a := by omega
        have t2 : ((k : Int) - (a : Int)).toNat = k - a := by omega
        repeat (first | refine ih (a + 1) _ _ (by omega) (by omega) ?_ ?_ | refine hJ _ _ _ _ ?_ | refine And.intro (by omega) (fun _ => ?_) | refine And.intro (by omega) ?_ | refine And.intro (fun _ => ?_) (by omega))
        · intro c hc
          rw [am_up_o hc, am_up_o hc]
          exact hg c hc
        · rw [t1, t2]
          exact st
      · exact fin a g x (by omega) h1 hg h27
  have e5 : am_up h 24 0 0 24 5 = h 24 5 := rfl
  repeat (first | exact loop (k - 0) 0 (am_up h 24 0 0) _ rfl (by omega) (fun _ _ => rfl) (by rw [rw_0]; rfl) | refine hJ _ _ _ _ ?_ | refine And.intro (by omega) (fun _ => ?_) | refine And.intro (by omega) ?_ | refine And.intro (fun _ => ?_) (by omega))
set_option maxRecDepth 20000 in
set_option maxHeartbeats 2000000 in
theorem m_turn_1 {E : AE} {l : Launch} {n m : Nat} {pt : Nat → ge_P} {rt : Nat → Nat} {h : AH} (R : ir n m pt rt h) (hm : m ≤ 40) {i k : Int} (hi : lo_r i) (hk : lo_r k) (hb : ¬ (0 ≤ i ∧ i ≤ k ∧ k < m)) : am_g E l 132 [.inr (.inr 24), .inl i, .inl k] h (rq n m pt rt h 1 none) := by
  have hQ : ∀ v, rq n m pt rt h 1 v v (am_up h 24 0 1) := fun v => rq_t R
  have e0 : am_up h 24 0 1 24 0 = 1 := rfl
  have r1 := R.2.1
  refine am_met T_Mo_turn (by decide) (Nat.le_of_ble_eq_true rfl) (fun J hJ => ?_)
  repeat (first | refine hJ _ _ _ _ ?_ | refine And.intro (by omega) (fun _ => ?_) | refine And.intro (by omega) ?_ | refine And.intro (fun _ => ?_) (by omega))
  refine And.intro (fun hc => ?_) (fun hc => ?_)
  · repeat (first | refine hJ _ _ _ _ ?_ | refine And.intro (by omega) (fun _ => ?_) | refine And.intro (by omega) ?_ | refine And.intro (fun _ => ?_) (by omega))
    exact hQ _
  · repeat (first | refine hJ _ _ _ _ ?_ | refine And.intro (by omega) (fun _ => ?_) | refine And.intro (by omega) ?_ | refine And.intro (fun _ => ?_) (by omega))
    refine And.intro (fun hd => ?_) (fun hd => ?_)
    · repeat (first | refine hJ _ _ _ _ ?_ | refine And.intro (by omega) (fun _ => ?_) | refine And.intro (by omega) ?_ | refine And.intro (fun _ => ?_) (by omega))
      exact hQ _
    · repeat (first | refine hJ _ _ _ _ ?_ | refine And.intro (by omega) (fun _ => ?_) | refine And.intro (by omega) ?_ | refine And.intro (fun _ => ?_) (by omega))
      exact hQ _
theorem o_turn {E : AE} {l : Launch} {s : State} (htr : l.stackTraces = false) (h0 : tx_0 s E) {k : Nat} {h : AH} (I : iv k h) : op_turn E l s (iv (k + 1)) h := by
  obtain ⟨n, m, pt, rt, rg, C, R⟩ := I
  intro x hx y hy
  have r1 := C.2.1.1
  have r2 := C.2.1.2.1
  by_cases hb : 0 ≤ x ∧ x ≤ y ∧ y < m
  · obtain ⟨i, rfl⟩ : ∃ i : Nat, x = (i : Int) := ⟨x.toNat, by omega⟩
    obtain ⟨j, rfl⟩ : ∃ j : Nat, y = (j : Int) := ⟨y.toNat, by omega⟩
    refine hp_turn_0 (am_g_mono (c_turn C (i := i) (k := j) (by omega) (by omega)) ?_)
    rintro r h1 ⟨rfl, f, C1⟩
    refine ⟨rfl, 0, rfl, by decide, by decide, ?_⟩
    refine am_g_mono (m_turn (ir_cg R (fun c c1 _ => f c c1)) r2 (i := i) (k := j) (by omega) (by omega)) ?_
    rintro r h2 ⟨rfl, f2, e2, R2⟩
    exact ⟨rfl, e2, n, m, pt, _, _, ic_cg C1 (fun c hc => f2 c (.inl hc)), R2⟩
  · refine hp_turn_1 h0 (z_De_turn h0 htr r1 r2 hx.1 hx.2 hy.1 hy.2 hb ?_)
    refine ⟨1, rfl, by decide, by decide, ?_⟩
    refine am_g_mono (m_turn_1 R r2 hx hy hb) ?_
    rintro r h2 ⟨rfl, f2, e2, R2⟩
    exact ⟨rfl, e2, n, m, pt, rt, rg, ic_mono (ic_cg C (fun c hc => f2 c (.inl hc))) (by omega), R2⟩
