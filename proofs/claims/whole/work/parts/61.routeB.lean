/-! the reference: the route and its crossings -/
/-- the reference's route in the heap -/
def mr (h : AH) (n m : Nat) (pt rg : Nat → ge_P) : Prop := h 24 5 = (m : Int) ∧ m ≤ 40 ∧ ∀ j : Nat, j < m → 0 ≤ h 27 j ∧ h 27 j < n ∧ pt (h 27 j).toNat = rg j
/-- what a route is made of -/
def rr (n m : Nat) (pt : Nat → ge_P) (rt : Nat → Nat) (rg : Nat → ge_P) : Prop := m ≤ 40 ∧ ∀ j, j < m → rt j < n ∧ rg j = pt (rt j)
theorem ic_rr {k n m : Nat} {pt : Nat → ge_P} {rt : Nat → Nat} {rg : Nat → ge_P} {h : AH} (C : ic k n m pt rt rg h) : rr n m pt rt rg := ⟨C.2.1.2.1, fun j hj => (C.2.1.2.2 j hj).2⟩
theorem ir_mr {n m : Nat} {pt : Nat → ge_P} {rt : Nat → Nat} {rg : Nat → ge_P} {h : AH} (R : ir n m pt rt h) (D : rr n m pt rt rg) : mr h n m pt rg := by
  refine ⟨R.2.1, D.1, fun j hj => ?_⟩
  have a := R.2.2 j hj
  have b := D.2 j hj
  rw [a]
  exact ⟨by omega, by omega, b.2.symm⟩
set_option maxRecDepth 20000 in
set_option maxHeartbeats 2000000 in
theorem s_Mo_behind {E : AE} {l : Launch} {h : AH} {m : Nat} (hm : h 24 5 = (m : Int)) (m40 : m ≤ 40) {i : Nat} (hi : i < m) {Q : AR} (hQ : Q (some (.inl (nx m i : Int))) h) : am_g E l 133 [.inr (.inr 24), .inl (i : Int)] h Q := by
  refine am_met T_Mo_behind (by decide) (Nat.le_of_ble_eq_true rfl) (fun J hJ => ?_)
  by_cases hx : i + 1 < m
  · rw [show nx m i = i + 1 from if_pos hx] at hQ
    repeat (first | refine hJ _ _ _ _ ?_ | refine And.intro (by omega) (fun _ => ?_) | refine And.intro (by omega) ?_ | refine And.intro (fun _ => ?_) (by omega))
    exact hQ
  · rw [show nx m i = 0 from if_neg hx] at hQ
    repeat (first | refine hJ _ _ _ _ ?_ | refine And.intro (by omega) (fun _ => ?_) | refine And.intro (by omega) ?_ | refine And.intro (fun _ => ?_) (by omega))
    exact hQ
set_option maxRecDepth 20000 in
set_option maxHeartbeats 2000000 in
theorem s_Mo_doMeet {E : AE} {l : Launch} {h : AH} {a b e f : Int} (ha : -100000 ≤ a ∧ a ≤ 100000) (hb : -100000 ≤ b ∧ b ≤ 100000) (he : -100000 ≤ e ∧ e ≤ 100000) (hf : -100000 ≤ f ∧ f ≤ 100000) {Q : AR} (h1 : ge_bx a b e f → Q (some (.inl 1)) h) (h0 : ¬ ge_bx a b e f → Q (some (.inl 0)) h) : am_g E l 134 [.inl a, .inl b, .inl e, .inl f] h Q := by
  refine am_met T_Mo_doMeet (by decide) (Nat.le_of_ble_eq_true rfl) (fun J hJ => ?_)
  have tail : ∀ la ha le he : Int, (la ≤ ha ∧ ((la = a ∧ ha = b) ∨ (la = b ∧ ha = a))) → (le ≤ he ∧ ((le = e ∧ he = f) ∨ (le = f ∧ he = e))) → J 48 [some (.inl a), some (.inl b), some (.inl e), some (.inl f), some (.inl la), some (.inl ha), some (.inl le), some (.inl he)] [] h := by
    intro la ha le he g1 g2
    repeat (first | refine hJ _ _ _ _ ?_ | refine And.intro (by omega) (fun _ => ?_) | refine And.intro (by omega) ?_ | refine And.intro (fun _ => ?_) (by omega))
    refine And.intro (fun hc => ?_) (fun hc => ?_)
    · repeat (first | refine hJ _ _ _ _ ?_ | refine And.intro (by omega) (fun _ => ?_) | refine And.intro (by omega) ?_ | refine And.intro (fun _ => ?_) (by omega))
      exact h0 (by omega)
    · repeat (first | refine hJ _ _ _ _ ?_ | refine And.intro (by omega) (fun _ => ?_) | refine And.intro (by omega) ?_ | refine And.intro (fun _ => ?_) (by omega))
      refine And.intro (fun hd => ?_) (fun hd => ?_)
      · repeat (first | refine hJ _ _ _ _ ?_ | refine And.intro (by omega) (fun _ => ?_) | refine And.intro (by omega) ?_ | refine And.intro (fun _ => ?_) (by omega))
        exact h0 (by omega)
      · repeat (first | refine hJ _ _ _ _ ?_ | refine And.intro (by omega) (fun _ => ?_) | refine And.intro (by omega) ?_ | refine And.intro (fun _ => ?_) (by omega))
        exact h1 (by omega)
  repeat (first | refine hJ _ _ _ _ ?_ | refine And.intro (by omega) (fun _ => ?_) | refine And.intro (by omega) ?_ | refine And.intro (fun _ => ?_) (by omega))
  refine And.intro (fun hc => ?_) (fun hc => ?_)
  · repeat (first | refine hJ _ _ _ _ ?_ | refine And.intro (by omega) (fun _ => ?_) | refine And.intro (by omega) ?_ | refine And.intro (fun _ => ?_) (by omega))
    refine And.intro (fun hd => ?_) (fun hd => ?_)
    · repeat (first | exact tail _ _ _ _ (by omega) (by omega) | refine hJ _ _ _ _ ?_ | refine And.intro (by omega) (fun _ => ?_) | refine And.intro (by omega) ?_ | refine And.intro (fun _ => ?_) (by omega))
    · repeat (first | exact tail _ _ _ _ (by omega) (by omega) | refine hJ _ _ _ _ ?_ | refine And.intro (by omega) (fun _ => ?_) | refine And.intro (by omega) ?_ | refine And.intro (fun _ => ?_) (by omega))
  · repeat (first | refine hJ _ _ _ _ ?_ | refine And.intro (by omega) (fun _ => ?_) | refine And.intro (by omega) ?_ | refine And.intro (fun _ => ?_) (by omega))
    refine And.intro (fun hd => ?_) (fun hd => ?_)
    · repeat (first | exact tail _ _ _ _ (by omega) (by omega) | refine hJ _ _ _ _ ?_ | refine And.intro (by omega) (fun _ => ?_) | refine And.intro (by omega) ?_ | refine And.intro (fun _ => ?_) (by omega))
    · repeat (first | exact tail _ _ _ _ (by omega) (by omega) | refine hJ _ _ _ _ ?_ | refine And.intro (by omega) (fun _ => ?_) | refine And.intro (by omega) ?_ | refine And.intro (fun _ => ?_) (by omega))
set_option maxRecDepth 20000 in
set_option maxHeartbeats 2000000 in
theorem s_Mo_doShare {E : AE} {l : Launch} {h : AH} {n : Nat} {pt : Nat → ge_P} (P : mp h n pt) {a b e f : Int} (a1 : 0 ≤ a) (a2 : a < n) (b1 : 0 ≤ b) (b2 : b < n) (e1 : 0 ≤ e) (e2 : e < n) (f1 : 0 ≤ f) (f2 : f < n) {Q : AR} (h1 : ge_sh (pt a.toNat) (pt b.toNat) (pt e.toNat) (pt f.toNat) → Q (some (.inl 1)) h) (h0 : ¬ ge_sh (pt a.toNat) (pt b.toNat) (pt e.toNat) (pt f.toNat) → Q (some (.inl 0)) h) : am_g E l 135 [.inr (.inr 24), .inl a, .inl b, .inl e, .inl f] h Q := by
  have ra := mp_i P a1 a2
  have rb := mp_i P b1 b2
  have re := mp_i P e1 e2
  have rf := mp_i P f1 f2
  have n60 := P.2.1
  have x1 := mp_x ra.2.2 rb.2.2 re.2.2
  have x2 := mp_x ra.2.2 rb.2.2 rf.2.2
  have x3 := mp_x re.2.2 rf.2.2 ra.2.2
  have x4 := mp_x re.2.2 rf.2.2 rb.2.2
  have s1 := sg_b (ge_x (pt a.toNat) (pt b.toNat) (pt e.toNat)) (ge_x (pt a.toNat) (pt b.toNat) (pt f.toNat))
  have s2 := sg_b (ge_x (pt e.toNat) (pt f.toNat) (pt a.toNat)) (ge_x (pt e.toNat) (pt f.toNat) (pt b.toNat))
  refine am_met T_Mo_doShare (by decide) (Nat.le_of_ble_eq_true rfl) (fun J hJ => ?_)
  repeat (first | refine hJ _ _ _ _ ?_ | refine And.intro (by omega) (fun _ => ?_) | refine And.intro (by omega) ?_ | refine And.intro (fun _ => ?_) (by omega))
  rw [ra.1, rb.1, re.1, rf.1]
  refine s_Mo_doMeet (by omega) (by omega) (by omega) (by omega) (fun g1 => ?_) (fun g1 => ?_)
  · repeat (first | refine hJ _ _ _ _ ?_ | refine And.intro (by omega) (fun _ => ?_) | refine And.intro (by omega) ?_ | refine And.intro (fun _ => ?_) (by omega))
    rw [ra.2.1, rb.2.1, re.2.1, rf.2.1]
    refine s_Mo_doMeet (by omega) (by omega) (by omega) (by omega) (fun g2 => ?_) (fun g2 => ?_)
    · repeat (first | refine hJ _ _ _ _ ?_ | refine And.intro (by omega) (fun _ => ?_) | refine And.intro (by omega) ?_ | refine And.intro (fun _ => ?_) (by omega))
      refine s_Mo_turnOf P a1 a2 b1 b2 e1 e2 ?_
      repeat (first | refine hJ _ _ _ _ ?_ | refine And.intro (by omega) (fun _ => ?_) | refine And.intro (by omega) ?_ | refine And.intro (fun _ => ?_) (by omega))
      refine s_Mo_signOf (by omega) (by omega) ?_
      repeat (first | refine hJ _ _ _ _ ?_ | refine And.intro (by omega) (fun _ => ?_) | refine And.intro (by omega) ?_ | refine And.intro (fun _ => ?_) (by omega))
      refine s_Mo_turnOf P a1 a2 b1 b2 f1 f2 ?_
      repeat (first | refine hJ _ _ _ _ ?_ | refine And.intro (by omega) (fun _ => ?_) | refine And.intro (by omega) ?_ | refine And.intro (fun _ => ?_) (by omega))
      refine s_Mo_signOf (by omega) (by omega) ?_
      repeat (first | refine hJ _ _ _ _ ?_ | refine And.intro (by omega) (fun _ => ?_) | refine And.intro (by omega) ?_ | refine And.intro (fun _ => ?_) (by omega))
      refine And.intro (fun hc => ?_) (fun hc => ?_)
      · repeat (first | refine hJ _ _ _ _ ?_ | refine And.intro (by omega) (fun _ => ?_) | refine And.intro (by omega) ?_ | refine And.intro (fun _ => ?_) (by omega))
        exact h0 (fun g => absurd g.2.1 (Int.not_le.mpr hc))
      · repeat (first | refine hJ _ _ _ _ ?_ | refine And.intro (by omega) (fun _ => ?_) | refine And.intro (by omega) ?_ | refine And.intro (fun _ => ?_) (by omega))
        refine s_Mo_turnOf P e1 e2 f1 f2 a1 a2 ?_
        repeat (first | refine hJ _ _ _ _ ?_ | refine And.intro (by omega) (fun _ => ?_) | refine And.intro (by omega) ?_ | refine And.intro (fun _ => ?_) (by omega))
        refine s_Mo_signOf (by omega) (by omega) ?_
        repeat (first | refine hJ _ _ _ _ ?_ | refine And.intro (by omega) (fun _ => ?_) | refine And.intro (by omega) ?_ | refine And.intro (fun _ => ?_) (by omega))
        refine s_Mo_turnOf P e1 e2 f1 f2 b1 b2 ?_
        repeat (first | refine hJ _ _ _ _ ?_ | refine And.intro (by omega) (fun _ => ?_) | refine And.intro (by omega) ?_ | refine And.intro (fun _ => ?_) (by omega))
        refine s_Mo_signOf (by omega) (by omega) ?_
        repeat (first | refine hJ _ _ _ _ ?_ | refine And.intro (by omega) (fun _ => ?_) | refine And.intro (by omega) ?_ | refine And.intro (fun _ => ?_) (by omega))
        refine And.intro (fun hd => ?_) (fun hd => ?_)
        · repeat (first | refine hJ _ _ _ _ ?_ | refine And.intro (by omega) (fun _ => ?_) | refine And.intro (by omega) ?_ | refine And.intro (fun _ => ?_) (by omega))
          exact h0 (fun g => absurd g.2.2 (Int.not_le.mpr hd))
        · repeat (first | refine hJ _ _ _ _ ?_ | refine And.intro (by omega) (fun _ => ?_) | refine And.intro (by omega) ?_ | refine And.intro (fun _ => ?_) (by omega))
          exact h1 ⟨⟨g1, g2⟩, hc, hd⟩
    · repeat (first | refine hJ _ _ _ _ ?_ | refine And.intro (by omega) (fun _ => ?_) | refine And.intro (by omega) ?_ | refine And.intro (fun _ => ?_) (by omega))
      exact h0 (fun g => g2 g.1.2)
  · repeat (first | refine hJ _ _ _ _ ?_ | refine And.intro (by omega) (fun _ => ?_) | refine And.intro (by omega) ?_ | refine And.intro (fun _ => ?_) (by omega))
    exact h0 (fun g => g1 g.1.1)
set_option maxRecDepth 20000 in
set_option maxHeartbeats 2000000 in
theorem s_Mo_doOverlap {E : AE} {l : Launch} {h : AH} {n : Nat} {pt : Nat → ge_P} (P : mp h n pt) {a b d : Int} (a1 : 0 ≤ a) (a2 : a < n) (b1 : 0 ≤ b) (b2 : b < n) (d1 : 0 ≤ d) (d2 : d < n) {Q : AR} (h1 : ge_fb (pt a.toNat) (pt b.toNat) (pt d.toNat) → Q (some (.inl 1)) h) (h0 : ¬ ge_fb (pt a.toNat) (pt b.toNat) (pt d.toNat) → Q (some (.inl 0)) h) : am_g E l 136 [.inr (.inr 24), .inl a, .inl b, .inl d] h Q := by
  have ra := mp_i P a1 a2
  have rd := mp_i P d1 d2
  have n60 := P.2.1
  refine am_met T_Mo_doOverlap (by decide) (Nat.le_of_ble_eq_true rfl) (fun J hJ => ?_)
  have tail : ¬ (pt a.toNat ≠ pt b.toNat ∧ ge_on (pt b.toNat) (pt d.toNat) (pt a.toNat)) → J 30 [some (.inr (.inr 24)), some (.inl a), some (.inl b), some (.inl d)] [] h := by
    intro hn
    repeat (first | refine hJ _ _ _ _ ?_ | refine And.intro (by omega) (fun _ => ?_) | refine And.intro (by omega) ?_ | refine And.intro (fun _ => ?_) (by omega))
    refine s_Mo_isSame P d1 d2 b1 b2 (fun hs => ?_) (fun hs => ?_)
    · repeat (first | refine hJ _ _ _ _ ?_ | refine And.intro (by omega) (fun _ => ?_) | refine And.intro (by omega) ?_ | refine And.intro (fun _ => ?_) (by omega))
      exact h0 (fun g => g.elim hn (fun g => g.1 hs))
    · repeat (first | refine hJ _ _ _ _ ?_ | refine And.intro (by omega) (fun _ => ?_) | refine And.intro (by omega) ?_ | refine And.intro (fun _ => ?_) (by omega))
      refine s_Mo_isOn P a1 a2 b1 b2 (by unfold pd_in; omega) (fun g => ?_) (fun g => ?_)
      · rw [rd.1, rd.2.1] at g
        repeat (first | refine hJ _ _ _ _ ?_ | refine And.intro (by omega) (fun _ => ?_) | refine And.intro (by omega) ?_ | refine And.intro (fun _ => ?_) (by omega))
        exact h1 (.inr ⟨hs, g⟩)
      · rw [rd.1, rd.2.1] at g
        repeat (first | refine hJ _ _ _ _ ?_ | refine And.intro (by omega) (fun _ => ?_) | refine And.intro (by omega) ?_ | refine And.intro (fun _ => ?_) (by omega))
        exact h0 (fun q => q.elim hn (fun q => g q.2))
  repeat (first | refine hJ _ _ _ _ ?_ | refine And.intro (by omega) (fun _ => ?_) | refine And.intro (by omega) ?_ | refine And.intro (fun _ => ?_) (by omega))
  refine s_Mo_isSame P a1 a2 b1 b2 (fun hs => ?_) (fun hs => ?_)
  · repeat (first | exact tail (fun g => g.1 hs) | refine hJ _ _ _ _ ?_ | refine And.intro (by omega) (fun _ => ?_) | refine And.intro (by omega) ?_ | refine And.intro (fun _ => ?_) (by omega))
  · repeat (first | refine hJ _ _ _ _ ?_ | refine And.intro (by omega) (fun _ => ?_) | refine And.intro (by omega) ?_ | refine And.intro (fun _ => ?_) (by omega))
    refine s_Mo_isOn P b1 b2 d1 d2 (by unfold pd_in; omega) (fun g => ?_) (fun g => ?_)
    · rw [ra.1, ra.2.1] at g
      repeat (first | refine hJ _ _ _ _ ?_ | refine And.intro (by omega) (fun _ => ?_) | refine And.intro (by omega) ?_ | refine And.intro (fun _ => ?_) (by omega))
      exact h1 (.inl ⟨hs, g⟩)
    · rw [ra.1, ra.2.1] at g
      repeat (first | exact tail (fun q => g q.2) | refine hJ _ _ _ _ ?_ | refine And.intro (by omega) (fun _ => ?_) | refine And.intro (by omega) ?_ | refine And.intro (fun _ => ?_) (by omega))
set_option maxRecDepth 20000 in
set_option maxHeartbeats 2000000 in
theorem s_Mo_doCross {E : AE} {l : Launch} {h : AH} {n : Nat} {pt : Nat → ge_P} (P : mp h n pt) {m : Nat} {rg : Nat → ge_P} (K : mr h n m pt rg) {i k : Nat} (hi : i < m) (hk : k < m) {Q : AR} (h1 : cr_b rg m i k = true → Q (some (.inl 1)) h) (h0 : ¬ cr_b rg m i k = true → Q (some (.inl 0)) h) : am_g E l 137 [.inr (.inr 24), .inl (i : Int), .inl (k : Int)] h Q := by
  obtain ⟨hm, m40, hr⟩ := K
  have hni : nx m i < m := nx_lt hi
  have hnk : nx m k < m := nx_lt hk
  have wi : 0 ≤ h 27 (Int.toNat (i : Int)) ∧ h 27 (Int.toNat (i : Int)) < n ∧ pt (h 27 (Int.toNat (i : Int))).toNat = rg i := hr i hi
  have wk : 0 ≤ h 27 (Int.toNat (k : Int)) ∧ h 27 (Int.toNat (k : Int)) < n ∧ pt (h 27 (Int.toNat (k : Int))).toNat = rg k := hr k hk
  have wni : 0 ≤ h 27 (Int.toNat (nx m i : Int)) ∧ h 27 (Int.toNat (nx m i : Int)) < n ∧ pt (h 27 (Int.toNat (nx m i : Int))).toNat = rg (nx m i) := hr (nx m i) hni
  have wnk : 0 ≤ h 27 (Int.toNat (nx m k : Int)) ∧ h 27 (Int.toNat (nx m k : Int)) < n ∧ pt (h 27 (Int.toNat (nx m k : Int))).toNat = rg (nx m k) := hr (nx m k) hnk
  refine am_met T_Mo_doCross (by decide) (Nat.le_of_ble_eq_true rfl) (fun J hJ => ?_)
  repeat (first | refine hJ _ _ _ _ ?_ | refine And.intro (by omega) (fun _ => ?_) | refine And.intro (by omega) ?_ | refine And.intro (fun _ => ?_) (by omega))
  refine s_Mo_behind hm m40 hi ?_
  repeat (first | refine hJ _ _ _ _ ?_ | refine And.intro (by omega) (fun _ => ?_) | refine And.intro (by omega) ?_ | refine And.intro (fun _ => ?_) (by omega))
  refine s_Mo_behind hm m40 hk ?_
  repeat (first | refine hJ _ _ _ _ ?_ | refine And.intro (by omega) (fun _ => ?_) | refine And.intro (by omega) ?_ | refine And.intro (fun _ => ?_) (by omega))
  refine s_Mo_behind hm m40 hi ?_
  repeat (first | refine hJ _ _ _ _ ?_ | refine And.intro (by omega) (fun _ => ?_) | refine And.intro (by omega) ?_ | refine And.intro (fun _ => ?_) (by omega))
  refine And.intro (fun hc => ?_) (fun hc => ?_)
  · have hc' : ¬ nx m i = k := fun g => hc (by rw [g])
    repeat (first | refine hJ _ _ _ _ ?_ | refine And.intro (by omega) (fun _ => ?_) | refine And.intro (by omega) ?_ | refine And.intro (fun _ => ?_) (by omega))
    refine s_Mo_behind hm m40 hk ?_
    repeat (first | refine hJ _ _ _ _ ?_ | refine And.intro (by omega) (fun _ => ?_) | refine And.intro (by omega) ?_ | refine And.intro (fun _ => ?_) (by omega))
    refine And.intro (fun hd => ?_) (fun hd => ?_)
    · have hd' : ¬ nx m k = i := fun g => hd (by rw [g])
      have e : cr_b rg m i k = decide (ge_sh (rg i) (rg (nx m i)) (rg k) (rg (nx m k))) := by
        unfold cr_b
        rw [if_neg hc', if_neg hd']
      rw [e, decide_eq_true_iff] at h1 h0
      repeat (first | refine hJ _ _ _ _ ?_ | refine And.intro (by omega) (fun _ => ?_) | refine And.intro (by omega) ?_ | refine And.intro (fun _ => ?_) (by omega))
      refine s_Mo_doShare P wi.1 wi.2.1 wni.1 wni.2.1 wk.1 wk.2.1 wnk.1 wnk.2.1 (fun g => ?_) (fun g => ?_)
      · rw [wi.2.2, wni.2.2, wk.2.2, wnk.2.2] at g
        repeat (first | refine hJ _ _ _ _ ?_ | refine And.intro (by omega) (fun _ => ?_) | refine And.intro (by omega) ?_ | refine And.intro (fun _ => ?_) (by omega))
        exact h1 g
      · rw [wi.2.2, wni.2.2, wk.2.2, wnk.2.2] at g
        repeat (first | refine hJ _ _ _ _ ?_ | refine And.intro (by omega) (fun _ => ?_) | refine And.intro (by omega) ?_ | refine And.intro (fun _ => ?_) (by omega))
        exact h0 g
    · have hd' : nx m k = i := by omega
      have e : cr_b rg m i k = decide (ge_fb (rg k) (rg i) (rg (nx m i))) := by
        unfold cr_b
        rw [if_neg hc', if_pos hd']
      rw [e, decide_eq_true_iff] at h1 h0
      repeat (first | refine hJ _ _ _ _ ?_ | refine And.intro (by omega) (fun _ => ?_) | refine And.intro (by omega) ?_ | refine And.intro (fun _ => ?_) (by omega))
      refine s_Mo_doOverlap P wk.1 wk.2.1 wnk.1 wnk.2.1 wni.1 wni.2.1 (fun g => ?_) (fun g => ?_)
      · rw [wk.2.2, wnk.2.2, wni.2.2, hd'] at g
        repeat (first | refine hJ _ _ _ _ ?_ | refine And.intro (by omega) (fun _ => ?_) | refine And.intro (by omega) ?_ | refine And.intro (fun _ => ?_) (by omega))
        exact h1 g
      · rw [wk.2.2, wnk.2.2, wni.2.2, hd'] at g
        repeat (first | refine hJ _ _ _ _ ?_ | refine And.intro (by omega) (fun _ => ?_) | refine And.intro (by omega) ?_ | refine And.intro (fun _ => ?_) (by omega))
        exact h0 g
  · have hc' : nx m i = k := by omega
    have e : cr_b rg m i k = decide (ge_fb (rg i) (rg k) (rg (nx m k))) := by
      unfold cr_b
      rw [if_pos hc']
    rw [e, decide_eq_true_iff] at h1 h0
    repeat (first | refine hJ _ _ _ _ ?_ | refine And.intro (by omega) (fun _ => ?_) | refine And.intro (by omega) ?_ | refine And.intro (fun _ => ?_) (by omega))
    refine s_Mo_doOverlap P wi.1 wi.2.1 wni.1 wni.2.1 wnk.1 wnk.2.1 (fun g => ?_) (fun g => ?_)
    · rw [wi.2.2, wni.2.2, wnk.2.2, hc'] at g
      repeat (first | refine hJ _ _ _ _ ?_ | refine And.intro (by omega) (fun _ => ?_) | refine And.intro (by omega) ?_ | refine And.intro (fun _ => ?_) (by omega))
      exact h1 g
    · rw [wi.2.2, wni.2.2, wnk.2.2, hc'] at g
      repeat (first | refine hJ _ _ _ _ ?_ | refine And.intro (by omega) (fun _ => ?_) | refine And.intro (by omega) ?_ | refine And.intro (fun _ => ?_) (by omega))
      exact h0 g
set_option maxRecDepth 20000 in
set_option maxHeartbeats 2000000 in
theorem m_crossings {E : AE} {l : Launch} {n m : Nat} {pt : Nat → ge_P} {rt : Nat → Nat} {rg : Nat → ge_P} {h : AH} (R : ir n m pt rt h) (D : rr n m pt rt rg) : am_g E l 138 [.inr (.inr 24)] h (rq n m pt rt h 0 (some (.inl ((cr_l rg m).length : Int)))) := by
  have hQ : ∀ v, rq n m pt rt h 0 v v (am_up h 24 0 0) := fun v => rq_t R
  have R0 := ir_t R (t := 0)
  have P := R0.1
  have K := ir_mr R0 D
  have hm := K.1
  have m40 := K.2.1
  refine am_met T_Mo_crossings (by decide) (Nat.le_of_ble_eq_true rfl) (fun J hJ => ?_)
  by_cases h3 : 3 ≤ m
  · have outer : ∀ d i : Nat, ∀ (acc : Int) (x : Option AV), i + d = m → acc = ((fo (cr_o rg m) [] 0 i).length : Int) → J 9 [some (.inr (.inr 24)), some (.inl acc), some (.inl (i : Int)), x] [] (am_up h 24 0 0) := by
      intro d
      induction d with
      | zero =>
        intro i acc x hi ha
        have ei : i = m := by omega
        rw [ei, ← cr_l_3 h3] at ha
        repeat (first | refine hJ _ _ _ _ ?_ | refine And.intro (by omega) (fun _ => ?_) | refine And.intro (by omega) ?_ | refine And.intro (fun _ => ?_) (by omega))
        rw [ha]
        exact hQ _
      | succ d oih =>
        intro i acc x hi ha
        have inner : ∀ e k : Nat, ∀ (acc : Int), k + e = m → i < k → acc = ((cr_p rg m i k).length : Int) → J 29 [some (.inr (.inr 24)), some (.inl acc), some (.inl (i : Int)), some (.inl (k : Int))] [] (am_up h 24 0 0) := by
          intro e
          induction e with
          | zero =>
            intro k acc hk hik ha
            have ek : k = m := by omega
            rw [ek, cr_p_m] at ha
            repeat (first | exact oih (i + 1) _ _ (by omega) ha | refine hJ _ _ _ _ ?_ | refine And.intro (by omega) (fun _ => ?_) | refine And.intro (by omega) ?_ | refine And.intro (fun _ => ?_) (by omega))
          | succ e ih =>
            intro k acc hk hik ha
            repeat (first | refine hJ _ _ _ _ ?_ | refine And.intro (by omega) (fun _ => ?_) | refine And.intro (by omega) ?_ | refine And.intro (fun _ => ?_) (by omega))
            refine s_Mo_doCross P K (by omega) (by omega) (fun hb => ?_) (fun hb => ?_)
            · have e1 : ((cr_p rg m i (k + 1)).length : Int) = acc + 1 := by
                rw [cr_p_t hik hb, List.length_append, ha]; rfl
              repeat (first | exact ih (k + 1) _ (by omega) (by omega) e1.symm | refine hJ _ _ _ _ ?_ | refine And.intro (by omega) (fun _ => ?_) | refine And.intro (by omega) ?_ | refine And.intro (fun _ => ?_) (by omega))
            · rw [← cr_p_f hik hb] at ha
              repeat (first | exact ih (k + 1) _ (by omega) (by omega) ha | refine hJ _ _ _ _ ?_ | refine And.intro (by omega) (fun _ => ?_) | refine And.intro (by omega) ?_ | refine And.intro (fun _ => ?_) (by omega))
        rw [← cr_p_0 rg m (Nat.le_refl (i + 1))] at ha
        repeat (first | exact inner (m - (i + 1)) (i + 1) _ (by omega) (by omega) ha | refine hJ _ _ _ _ ?_ | refine And.intro (by omega) (fun _ => ?_) | refine And.intro (by omega) ?_ | refine And.intro (fun _ => ?_) (by omega))
    repeat (first | exact outer m 0 _ _ (by omega) rfl | refine hJ _ _ _ _ ?_ | refine And.intro (by omega) (fun _ => ?_) | refine And.intro (by omega) ?_ | refine And.intro (fun _ => ?_) (by omega))
  · have el := cr_l_0 (rg := rg) (show m < 3 by omega)
    by_cases h00 : m = 0
    · repeat (first | refine hJ _ _ _ _ ?_ | refine And.intro (by omega) (fun _ => ?_) | refine And.intro (by omega) ?_ | refine And.intro (fun _ => ?_) (by omega))
      rw [el]
      exact hQ _
    · repeat (first | refine hJ _ _ _ _ ?_ | refine And.intro (by omega) (fun _ => ?_) | refine And.intro (by omega) ?_ | refine And.intro (fun _ => ?_) (by omega))
      rw [el]
      exact hQ _
abbrev an_crossing (rg : Nat → ge_P) (m : Nat) (x : Int) : Int := if 0 ≤ x ∧ x < ((cr_l rg m).length : Int) then (cr_l rg m).getD x.toNat 0 else -1
set_option maxRecDepth 20000 in
set_option maxHeartbeats 2000000 in
theorem m_crossing {E : AE} {l : Launch} {n m : Nat} {pt : Nat → ge_P} {rt : Nat → Nat} {rg : Nat → ge_P} {h : AH} (R : ir n m pt rt h) (D : rr n m pt rt rg) {x : Int} (hx : lo_r x) : am_g E l 139 [.inr (.inr 24), .inl x] h (rq n m pt rt h 0 (some (.inl (an_crossing rg m x)))) := by
  have hQ : ∀ v, rq n m pt rt h 0 v v (am_up h 24 0 0) := fun v => rq_t R
  have R0 := ir_t R (t := 0)
  have P := R0.1
  have K := ir_mr R0 D
  have hm := K.1
  have m40 := K.2.1
  refine am_met T_Mo_crossing (by decide) (Nat.le_of_ble_eq_true rfl) (fun J hJ => ?_)
  by_cases h3 : 3 ≤ m
  · have outer : ∀ d i : Nat, ∀ (acc : Int) (y : Option AV), i + d = m → acc = ((fo (cr_o rg m) [] 0 i).length : Int) → ¬ (0 ≤ x ∧ x < acc) → J 9 [some (.inr (.inr 24)), some (.inl x), some (.inl acc), some (.inl (i : Int)), y] [] (am_up h 24 0 0) := by
      intro d
      induction d with
      | zero =>
        intro i acc y hi ha hno
        have ei : i = m := by omega
        rw [ei, ← cr_l_3 h3] at ha
        repeat (first | refine hJ _ _ _ _ ?_ | refine And.intro (by omega) (fun _ => ?_) | refine And.intro (by omega) ?_ | refine And.intro (fun _ => ?_) (by omega))
        have e : an_crossing rg m x = -1 := if_neg (by rw [← ha]; exact hno)
        rw [e]
        exact hQ _
      | succ d oih =>
        intro i acc y hi ha hno
        have inner : ∀ e k : Nat, ∀ (acc : Int), k + e = m → i < k → acc = ((cr_p rg m i k).length : Int) → ¬ (0 ≤ x ∧ x < acc) → J 30 [some (.inr (.inr 24)), some (.inl x), some (.inl acc), some (.inl (i : Int)), some (.inl (k : Int))] [] (am_up h 24 0 0) := by
          intro e
          induction e with
          | zero =>
            intro k acc hk hik ha hno
            have ek : k = m := by omega
            rw [ek, cr_p_m] at ha
            repeat (first | exact oih (i + 1) _ _ (by omega) ha hno | refine hJ _ _ _ _ ?_ | refine And.intro (by omega) (fun _ => ?_) | refine And.intro (by omega) ?_ | refine And.intro (fun _ => ?_) (by omega))
          | succ e ih =>
            intro k acc hk hik ha hno
            have hlt := cr_len_lt (rg := rg) m40 hik (show k < m by omega)
            repeat (first | refine hJ _ _ _ _ ?_ | refine And.intro (by omega) (fun _ => ?_) | refine And.intro (by omega) ?_ | refine And.intro (fun _ => ?_) (by omega))
            refine s_Mo_doCross P K (by omega) (by omega) (fun hb => ?_) (fun hb => ?_)
            · have e1 : ((cr_p rg m i (k + 1)).length : Int) = acc + 1 := by
                rw [cr_p_t hik hb, List.length_append, ha]; rfl
              repeat (first | refine hJ _ _ _ _ ?_ | refine And.intro (by omega) (fun _ => ?_) | refine And.intro (by omega) ?_ | refine And.intro (fun _ => ?_) (by omega))
              refine And.intro (fun hc => ?_) (fun hc => ?_)
              · repeat (first | exact ih (k + 1) _ (by omega) (by omega) e1.symm (by omega) | refine hJ _ _ _ _ ?_ | refine And.intro (by omega) (fun _ => ?_) | refine And.intro (by omega) ?_ | refine And.intro (fun _ => ?_) (by omega))
              · obtain ⟨r, hr⟩ := cr_pre (rg := rg) (i := i) (k := k + 1) h3 (by omega) (by omega)
                have ex : x.toNat = (cr_p rg m i k).length := by omega
                have e : an_crossing rg m x = 64 * (i : Int) + k := by
                  have hl : (cr_l rg m).length = (cr_p rg m i k).length + 1 + r.length := by
                    rw [hr, List.length_append, cr_p_t hik hb, List.length_append]; rfl
                  have e2 : an_crossing rg m x = (cr_l rg m).getD x.toNat 0 := if_pos (by omega)
                  rw [e2, ex, hr, cr_p_t hik hb]
                  simp [List.getD_eq_getElem?_getD, List.getElem?_append]
                repeat (first | refine hJ _ _ _ _ ?_ | refine And.intro (by omega) (fun _ => ?_) | refine And.intro (by omega) ?_ | refine And.intro (fun _ => ?_) (by omega))
                rw [e]
                exact hQ _
            · rw [← cr_p_f hik hb] at ha
              repeat (first | exact ih (k + 1) _ (by omega) (by omega) ha hno | refine hJ _ _ _ _ ?_ | refine And.intro (by omega) (fun _ => ?_) | refine And.intro (by omega) ?_ | refine And.intro (fun _ => ?_) (by omega))
        rw [← cr_p_0 rg m (Nat.le_refl (i + 1))] at ha
        repeat (first | exact inner (m - (i + 1)) (i + 1) _ (by omega) (by omega) ha hno | refine hJ _ _ _ _ ?_ | refine And.intro (by omega) (fun _ => ?_) | refine And.intro (by omega) ?_ | refine And.intro (fun _ => ?_) (by omega))
    repeat (first | exact outer m 0 _ _ (by omega) rfl (by omega) | refine hJ _ _ _ _ ?_ | refine And.intro (by omega) (fun _ => ?_) | refine And.intro (by omega) ?_ | refine And.intro (fun _ => ?_) (by omega))
  · have el := cr_l_0 (rg := rg) (show m < 3 by omega)
    have e : an_crossing rg m x = -1 := if_neg (by rw [el]; intro g; have := g.1; have h2 := g.2; simp at h2; omega)
    by_cases h00 : m = 0
    · repeat (first | refine hJ _ _ _ _ ?_ | refine And.intro (by omega) (fun _ => ?_) | refine And.intro (by omega) ?_ | refine And.intro (fun _ => ?_) (by omega))
      rw [e]
      exact hQ _
    · repeat (first | refine hJ _ _ _ _ ?_ | refine And.intro (by omega) (fun _ => ?_) | refine And.intro (by omega) ?_ | refine And.intro (fun _ => ?_) (by omega))
      rw [e]
      exact hQ _
set_option maxRecDepth 20000 in
set_option maxHeartbeats 2000000 in
theorem s_Mo_isSimple {E : AE} {l : Launch} {h : AH} {n : Nat} {pt : Nat → ge_P} (P : mp h n pt) {m : Nat} {rg : Nat → ge_P} (K : mr h n m pt rg) {Q : AR} (h1 : rs rg m → Q (some (.inl 1)) h) (h0 : ¬ rs rg m → Q (some (.inl 0)) h) : am_g E l 140 [.inr (.inr 24)] h Q := by
  have K0 := K
  obtain ⟨hm, m40, hr⟩ := K
  refine am_met T_Mo_isSimple (by decide) (Nat.le_of_ble_eq_true rfl) (fun J hJ => ?_)
  have no : ∀ (x y : Option AV), ¬ rs rg m → J 90 [some (.inr (.inr 24)), some (.inl 0), x, y] [] h := by
    intro x y hn
    repeat (first | refine hJ _ _ _ _ ?_ | refine And.intro (by omega) (fun _ => ?_) | refine And.intro (by omega) ?_ | refine And.intro (fun _ => ?_) (by omega))
    exact h0 hn
  by_cases h3 : 3 ≤ m
  · have outer : ∀ d i : Nat, ∀ (y : Option AV), i + d = m → (∀ a b, a < b → b < m → a < i → rg a ≠ rg b ∧ ¬ cr_b rg m a b = true) → J 16 [some (.inr (.inr 24)), some (.inl 1), some (.inl (i : Int)), y] [] h := by
      intro d
      induction d with
      | zero =>
        intro i y hi hall
        repeat (first | refine hJ _ _ _ _ ?_ | refine And.intro (by omega) (fun _ => ?_) | refine And.intro (by omega) ?_ | refine And.intro (fun _ => ?_) (by omega))
        exact h1 ⟨h3, fun a b g1 g2 => hall a b g1 g2 (by omega)⟩
      | succ d oih =>
        intro i y hi hall
        have bad : ∀ k : Nat, i < k → k < m → ¬ (rg i ≠ rg k ∧ ¬ cr_b rg m i k = true) → J 32 [some (.inr (.inr 24)), some (.inl 0), some (.inl (i : Int)), some (.inl ((k : Int) + 1))] [] h := by
          intro k g1 g2 g3
          have hn : ¬ rs rg m := fun q => g3 (q.2 i k g1 g2)
          by_cases hk : (k : Int) + 1 < m
          · by_cases hi2 : (i : Int) + 1 < m
            · repeat (first | exact no _ _ hn | refine hJ _ _ _ _ ?_ | refine And.intro (by omega) (fun _ => ?_) | refine And.intro (by omega) ?_ | refine And.intro (fun _ => ?_) (by omega))
            · omega
          · by_cases hi2 : (i : Int) + 1 < m
            · repeat (first | exact no _ _ hn | refine hJ _ _ _ _ ?_ | refine And.intro (by omega) (fun _ => ?_) | refine And.intro (by omega) ?_ | refine And.intro (fun _ => ?_) (by omega))
            · omega
        have inner : ∀ e k : Nat, k + e = m → i < k → (∀ b, i < b → b < k → rg i ≠ rg b ∧ ¬ cr_b rg m i b = true) → J 32 [some (.inr (.inr 24)), some (.inl 1), some (.inl (i : Int)), some (.inl (k : Int))] [] h := by
          intro e
          induction e with
          | zero =>
            intro k hk hik hin
            have hall' : ∀ a b, a < b → b < m → a < i + 1 → rg a ≠ rg b ∧ ¬ cr_b rg m a b = true := fun a b g1 g2 g3 => by
              rcases (show a < i ∨ a = i by omega) with q | q
              · exact hall a b g1 g2 q
              · subst q; exact hin b g1 (by omega)
            repeat (first | exact oih (i + 1) _ (by omega) hall' | refine hJ _ _ _ _ ?_ | refine And.intro (by omega) (fun _ => ?_) | refine And.intro (by omega) ?_ | refine And.intro (fun _ => ?_) (by omega))
          | succ e ih =>
            intro k hk hik hin
            have wi : 0 ≤ h 27 (Int.toNat (i : Int)) ∧ h 27 (Int.toNat (i : Int)) < n ∧ pt (h 27 (Int.toNat (i : Int))).toNat = rg i := hr i (by omega)
            have wk : 0 ≤ h 27 (Int.toNat (k : Int)) ∧ h 27 (Int.toNat (k : Int)) < n ∧ pt (h 27 (Int.toNat (k : Int))).toNat = rg k := hr k (by omega)
            repeat (first | refine hJ _ _ _ _ ?_ | refine And.intro (by omega) (fun _ => ?_) | refine And.intro (by omega) ?_ | refine And.intro (fun _ => ?_) (by omega))
            refine s_Mo_isSame P wi.1 wi.2.1 wk.1 wk.2.1 (fun g => ?_) (fun g => ?_)
            · rw [wi.2.2, wk.2.2] at g
              repeat (first | exact bad k hik (by omega) (fun q => q.1 g) | refine hJ _ _ _ _ ?_ | refine And.intro (by omega) (fun _ => ?_) | refine And.intro (by omega) ?_ | refine And.intro (fun _ => ?_) (by omega))
            · rw [wi.2.2, wk.2.2] at g
              repeat (first | refine hJ _ _ _ _ ?_ | refine And.intro (by omega) (fun _ => ?_) | refine And.intro (by omega) ?_ | refine And.intro (fun _ => ?_) (by omega))
              refine s_Mo_doCross P K0 (by omega) (by omega) (fun hb => ?_) (fun hb => ?_)
              · repeat (first | exact bad k hik (by omega) (fun q => q.2 hb) | refine hJ _ _ _ _ ?_ | refine And.intro (by omega) (fun _ => ?_) | refine And.intro (by omega) ?_ | refine And.intro (fun _ => ?_) (by omega))
              · have hin' : ∀ b, i < b → b < k + 1 → rg i ≠ rg b ∧ ¬ cr_b rg m i b = true := fun b g1 g2 => by
                  rcases (show b < k ∨ b = k by omega) with q | q
                  · exact hin b g1 q
                  · subst q; exact ⟨g, hb⟩
                repeat (first | exact ih (k + 1) (by omega) (by omega) hin' | refine hJ _ _ _ _ ?_ | refine And.intro (by omega) (fun _ => ?_) | refine And.intro (by omega) ?_ | refine And.intro (fun _ => ?_) (by omega))
        repeat (first | exact inner (m - (i + 1)) (i + 1) (by omega) (by omega) (fun b g1 g2 => by omega) | refine hJ _ _ _ _ ?_ | refine And.intro (by omega) (fun _ => ?_) | refine And.intro (by omega) ?_ | refine And.intro (fun _ => ?_) (by omega))
    repeat (first | exact outer m 0 _ (by omega) (fun a b _ _ g => absurd g (Nat.not_lt_zero _)) | refine hJ _ _ _ _ ?_ | refine And.intro (by omega) (fun _ => ?_) | refine And.intro (by omega) ?_ | refine And.intro (fun _ => ?_) (by omega))
  · have hn : ¬ rs rg m := fun q => h3 q.1
    by_cases h00 : m = 0
    · repeat (first | exact no _ _ hn | refine hJ _ _ _ _ ?_ | refine And.intro (by omega) (fun _ => ?_) | refine And.intro (by omega) ?_ | refine And.intro (fun _ => ?_) (by omega))
    · repeat (first | exact no _ _ hn | refine hJ _ _ _ _ ?_ | refine And.intro (by omega) (fun _ => ?_) | refine And.intro (by omega) ?_ | refine And.intro (fun _ => ?_) (by omega))
set_option maxRecDepth 20000 in
set_option maxHeartbeats 2000000 in
theorem s_Mo_roundOf {E : AE} {l : Launch} {h : AH} {n : Nat} {pt : Nat → ge_P} (P : mp h n pt) {m : Nat} {rg : Nat → ge_P} (K : mr h n m pt rg) (h3 : 3 ≤ m) {Q : AR} (hQ : Q (some (.inr (.inl (ro rg m)))) h) : am_g E l 142 [.inr (.inr 24)] h Q := by
  obtain ⟨hm, m40, hr⟩ := K
  have ero : ro rg m = su (fun i => ge_x (rg 0) (rg i) (rg (i + 1))) 1 (m - 1) := by
    have e1 := ge_fan_eq rg m
    have e2 := su_shift (fun i => ge_x (rg 0) (rg (i - 1)) (rg i)) 1 (m - 1)
    rw [show m - 1 + 1 = m by omega] at e2
    unfold ro
    rw [← e1, ← e2]
    rfl
  refine am_met T_Mo_roundOf (by decide) (Nat.le_of_ble_eq_true rfl) (fun J hJ => ?_)
  have loop : ∀ d k : Nat, ∀ (acc : Int), k + 1 + d = m → 1 ≤ k → acc = su (fun i => ge_x (rg 0) (rg i) (rg (i + 1))) 1 k → J 4 [some (.inr (.inr 24)), some (.inr (.inl acc)), none, some (.inl (k : Int))] [] h := by
    intro d
    induction d with
    | zero =>
      intro k acc hk h1 ha
      repeat (first | refine hJ _ _ _ _ ?_ | refine And.intro (by omega) (fun _ => ?_) | refine And.intro (by omega) ?_ | refine And.intro (fun _ => ?_) (by omega))
      rw [ero, show m - 1 = k by omega, ← ha] at hQ
      exact hQ
    | succ d ih =>
      intro k acc hk h1 ha
      have w0 : 0 ≤ h 27 (Int.toNat 0) ∧ h 27 (Int.toNat 0) < n ∧ pt (h 27 (Int.toNat 0)).toNat = rg 0 := hr 0 (by omega)
      have wk : 0 ≤ h 27 (Int.toNat (k : Int)) ∧ h 27 (Int.toNat (k : Int)) < n ∧ pt (h 27 (Int.toNat (k : Int))).toNat = rg k := hr k (by omega)
      have wn : 0 ≤ h 27 (Int.toNat ((k : Int) + 1)) ∧ h 27 (Int.toNat ((k : Int) + 1)) < n ∧ pt (h 27 (Int.toNat ((k : Int) + 1))).toNat = rg (k + 1) := hr (k + 1) (by omega)
      repeat (first | refine hJ _ _ _ _ ?_ | refine And.intro (by omega) (fun _ => ?_) | refine And.intro (by omega) ?_ | refine And.intro (fun _ => ?_) (by omega))
      refine s_Mo_turnOf P w0.1 w0.2.1 wk.1 wk.2.1 wn.1 wn.2.1 ?_
      rw [w0.2.2, wk.2.2, wn.2.2]
      repeat (first | exact ih (k + 1) _ (by omega) (by omega) (by rw [su_s h1]; omega) | refine hJ _ _ _ _ ?_ | refine And.intro (by omega) (fun _ => ?_) | refine And.intro (by omega) ?_ | refine And.intro (fun _ => ?_) (by omega))
  repeat (first | exact loop (m - 2) 1 _ (by omega) (by omega) (by rw [su_0 (by omega)]) | refine hJ _ _ _ _ ?_ | refine And.intro (by omega) (fun _ => ?_) | refine And.intro (by omega) ?_ | refine And.intro (fun _ => ?_) (by omega))
