/-! the class: which side is best -/
theorem pm {x y X Y : Int} (x1 : 0 ≤ x) (x2 : x ≤ X) (y1 : 0 ≤ y) (y2 : y ≤ Y) : 0 ≤ x * y ∧ x * y ≤ X * Y := ⟨Int.mul_nonneg x1 y1, Int.mul_le_mul x2 y2 y1 (by omega)⟩
/-- limbs in the heap -/
def wk_ (h : AH) (c : Nat) (v : Int) : Prop := (∀ j, j < 5 → 0 ≤ h (c + 1) j ∧ h (c + 1) j < 16777216) ∧ vl 16777216 (h (c + 1)) 5 = v
theorem s_Wi_times {E : AE} {l : Launch} {h : AH} {c : Nat} (hc : c = 8 ∨ c = 10) {f v : Int} (f1 : 0 ≤ f) (f2 : f < 274877906944) (K : wk_ h c v) (hv : v * f < 1329227995784915872903807060280344576) {Q : AR} (hQ : ∀ h' : AH, (∀ q, q ≠ c + 1 → h' q = h q) → wk_ h' c (v * f) → Q none h') : am_g E l 40 [.inr (.inr c), .inr (.inl f)] h Q := by
  refine s_Wi_multiplyBy hc f1 f2 K.1 ?_
  refine hQ _ (fun q hq => aw_o hq) ⟨fun j hj => ?_, ?_⟩
  · rw [aw_i hj]; exact mf_b (by decide) _ _ _
  · rw [vl_congr (g := mf 16777216 (h (c + 1)) f) 5 (fun j hj => aw_i hj), mf_ok (by decide) f1 K.1 (by rw [K.2]; exact hv), K.2]
set_option maxRecDepth 20000 in
set_option maxHeartbeats 2000000 in
theorem s_Wi_setTo {E : AE} {l : Launch} {h : AH} {c : Nat} (hc : c = 8 ∨ c = 10) {a b e : Int} (a1 : 0 ≤ a) (a2 : a ≤ 200000000000) (b1 : 0 ≤ b) (b2 : b ≤ 200000000000) (e1 : 0 ≤ e) (e2 : e ≤ 200000000000) {Q : AR} (hQ : ∀ h' : AH, (∀ q, q ≠ c + 1 → h' q = h q) → wk_ h' c (a * b * e) → Q none h') : am_g E l 41 [.inr (.inr c), .inr (.inl a), .inr (.inl b), .inr (.inl e)] h Q := by
  have pab := pm a1 a2 b1 b2
  have pabe := pm pab.1 pab.2 e1 e2
  have start : ∀ g : AH, (∀ j, g (c + 1) j = if j = 0 then 1 else if j < 5 then 0 else h (c + 1) j) → wk_ g c 1 := fun g hg => by
    refine ⟨fun j hj => ?_, ?_⟩
    · rw [hg]
      split
      · omega
      · omega
    · rw [vl_congr (g := fun j => if j = 0 then 1 else 0) 5 (fun j hj => by rw [hg]; by_cases h0 : j = 0
                                                                            · rw [if_pos h0, if_pos h0]
                                                                            · rw [if_neg h0, if_neg h0, if_pos hj])]
      decide +kernel
  rcases hc with rfl | rfl
  · refine am_met T_Wi_setTo (by decide) (Nat.le_of_ble_eq_true rfl) (fun J hJ => ?_)
    have loop : ∀ d k : Nat, k + d = 5 → J 3 [some (.inr (.inr 8)), some (.inr (.inl a)), none, some (.inr (.inl b)), none, some (.inr (.inl e)), none, some (.inl (k : Int))] [] (aw h 9 (fun _ => 0) k) := by
      intro d
      induction d with
      | zero =>
        intro k hk
        have : k = 5 := by omega
        subst this
        have hg : ∀ j, am_up (aw h 9 (fun _ => 0) 5) 9 (Int.toNat 0) 1 9 j = if j = 0 then 1 else if j < 5 then 0 else h 9 j := fun j => by
          simp [am_up, aw]
        have W := start _ hg
        have o : ∀ q, q ≠ 9 → am_up (aw h 9 (fun _ => 0) 5) 9 (Int.toNat 0) 1 q = h q := fun q hq => by rw [am_up_o hq, aw_o hq]
        repeat (first | refine hJ _ _ _ _ ?_ | refine And.intro (by omega) (fun _ => ?_) | refine And.intro (by omega) ?_ | refine And.intro (fun _ => ?_) (by omega))
        refine s_Wi_times (.inl rfl) a1 (by omega) W (by omega) (fun g1 o1 W1 => ?_)
        repeat (first | refine hJ _ _ _ _ ?_ | refine And.intro (by omega) (fun _ => ?_) | refine And.intro (by omega) ?_ | refine And.intro (fun _ => ?_) (by omega))
        refine s_Wi_times (.inl rfl) b1 (by omega) W1 (by rw [Int.one_mul]; omega) (fun g2 o2 W2 => ?_)
        repeat (first | refine hJ _ _ _ _ ?_ | refine And.intro (by omega) (fun _ => ?_) | refine And.intro (by omega) ?_ | refine And.intro (fun _ => ?_) (by omega))
        rw [Int.one_mul] at W2
        refine s_Wi_times (.inl rfl) e1 (by omega) W2 (by omega) (fun g3 o3 W3 => ?_)
        repeat (first | refine hJ _ _ _ _ ?_ | refine And.intro (by omega) (fun _ => ?_) | refine And.intro (by omega) ?_ | refine And.intro (fun _ => ?_) (by omega))
        exact hQ g3 (fun q hq => by rw [o3 q hq, o2 q hq, o1 q hq, o q hq]) W3
      | succ d ih =>
        intro k hk
        have this := ih (k + 1) (by omega)
        rw [← aw_s] at this
        repeat (first | exact this | refine hJ _ _ _ _ ?_ | refine And.intro (by omega) (fun _ => ?_) | refine And.intro (by omega) ?_ | refine And.intro (fun _ => ?_) (by omega))
    have this := loop 5 0 (by omega)
    rw [aw_0] at this
    repeat (first | exact this | refine hJ _ _ _ _ ?_ | refine And.intro (by omega) (fun _ => ?_) | refine And.intro (by omega) ?_ | refine And.intro (fun _ => ?_) (by omega))
  · refine am_met T_Wi_setTo (by decide) (Nat.le_of_ble_eq_true rfl) (fun J hJ => ?_)
    have loop : ∀ d k : Nat, k + d = 5 → J 3 [some (.inr (.inr 10)), some (.inr (.inl a)), none, some (.inr (.inl b)), none, some (.inr (.inl e)), none, some (.inl (k : Int))] [] (aw h 11 (fun _ => 0) k) := by
      intro d
      induction d with
      | zero =>
        intro k hk
        have : k = 5 := by omega
        subst this
        have hg : ∀ j, am_up (aw h 11 (fun _ => 0) 5) 11 (Int.toNat 0) 1 11 j = if j = 0 then 1 else if j < 5 then 0 else h 11 j := fun j => by
          simp [am_up, aw]
        have W := start _ hg
        have o : ∀ q, q ≠ 11 → am_up (aw h 11 (fun _ => 0) 5) 11 (Int.toNat 0) 1 q = h q := fun q hq => by rw [am_up_o hq, aw_o hq]
        repeat (first | refine hJ _ _ _ _ ?_ | refine And.intro (by omega) (fun _ => ?_) | refine And.intro (by omega) ?_ | refine And.intro (fun _ => ?_) (by omega))
        refine s_Wi_times (.inr rfl) a1 (by omega) W (by omega) (fun g1 o1 W1 => ?_)
        repeat (first | refine hJ _ _ _ _ ?_ | refine And.intro (by omega) (fun _ => ?_) | refine And.intro (by omega) ?_ | refine And.intro (fun _ => ?_) (by omega))
        refine s_Wi_times (.inr rfl) b1 (by omega) W1 (by rw [Int.one_mul]; omega) (fun g2 o2 W2 => ?_)
        repeat (first | refine hJ _ _ _ _ ?_ | refine And.intro (by omega) (fun _ => ?_) | refine And.intro (by omega) ?_ | refine And.intro (fun _ => ?_) (by omega))
        rw [Int.one_mul] at W2
        refine s_Wi_times (.inr rfl) e1 (by omega) W2 (by omega) (fun g3 o3 W3 => ?_)
        repeat (first | refine hJ _ _ _ _ ?_ | refine And.intro (by omega) (fun _ => ?_) | refine And.intro (by omega) ?_ | refine And.intro (fun _ => ?_) (by omega))
        exact hQ g3 (fun q hq => by rw [o3 q hq, o2 q hq, o1 q hq, o q hq]) W3
      | succ d ih =>
        intro k hk
        have this := ih (k + 1) (by omega)
        rw [← aw_s] at this
        repeat (first | exact this | refine hJ _ _ _ _ ?_ | refine And.intro (by omega) (fun _ => ?_) | refine And.intro (by omega) ?_ | refine And.intro (fun _ => ?_) (by omega))
    have this := loop 5 0 (by omega)
    rw [aw_0] at this
    repeat (first | exact this | refine hJ _ _ _ _ ?_ | refine And.intro (by omega) (fun _ => ?_) | refine And.intro (by omega) ?_ | refine And.intro (fun _ => ?_) (by omega))
set_option maxRecDepth 20000 in
set_option maxHeartbeats 2000000 in
theorem s_Wi_isBelow {E : AE} {l : Launch} {h : AH} {v w : Int} (K : wk_ h 8 v) (L : wk_ h 10 w) {Q : AR} (h1 : v < w → Q (some (.inl 1)) h) (h0 : ¬ v < w → Q (some (.inl 0)) h) : am_g E l 42 [.inr (.inr 8), .inr (.inr 10)] h Q := by
  obtain ⟨K1, K2⟩ := K
  obtain ⟨L1, L2⟩ := L
  have K1 : ∀ j, j < 5 → 0 ≤ h 9 j ∧ h 9 j < 16777216 := K1
  have L1 : ∀ j, j < 5 → 0 ≤ h 11 j ∧ h 11 j < 16777216 := L1
  have K2 : vl 16777216 (h 9) 5 = v := K2
  have L2 : vl 16777216 (h 11) 5 = w := L2
  refine am_met T_Wi_isBelow (by decide) (Nat.le_of_ble_eq_true rfl) (fun J hJ => ?_)
  have loop : ∀ c : Nat, ∀ p : Int, p + 1 = (c : Int) → c ≤ 5 → (∀ j, c ≤ j → j < 5 → h 9 j = h 11 j) → J 2 [some (.inr (.inr 8)), some (.inr (.inr 10)), some (.inl p)] [] h := by
    intro c
    induction c with
    | zero =>
      intro p hp hc heq
      have e : v = w := by rw [← K2, ← L2]; exact vl_congr 5 (fun j hj => heq j (by omega) hj)
      repeat (first | refine hJ _ _ _ _ ?_ | refine And.intro (by omega) (fun _ => ?_) | refine And.intro (by omega) ?_ | refine And.intro (fun _ => ?_) (by omega))
      exact h0 (by omega)
    | succ c ih =>
      intro p hp hc heq
      have ep : p = (c : Int) := by omega
      subst ep
      have a : 0 ≤ h 9 (Int.toNat (c : Int)) ∧ h 9 (Int.toNat (c : Int)) < 16777216 := K1 c (by omega)
      have b : 0 ≤ h 11 (Int.toNat (c : Int)) ∧ h 11 (Int.toNat (c : Int)) < 16777216 := L1 c (by omega)
      repeat (first | refine hJ _ _ _ _ ?_ | refine And.intro (by omega) (fun _ => ?_) | refine And.intro (by omega) ?_ | refine And.intro (fun _ => ?_) (by omega))
      refine And.intro (fun he => ?_) (fun he => ?_)
      · have heq' : ∀ j, c ≤ j → j < 5 → h 9 j = h 11 j := fun j j1 j2 => by
          rcases (show c + 1 ≤ j ∨ j = c by omega) with q | q
          · exact heq j q j2
          · subst q; exact he
        repeat (first | exact ih _ (by omega) (by omega) heq' | refine hJ _ _ _ _ ?_ | refine And.intro (by omega) (fun _ => ?_) | refine And.intro (by omega) ?_ | refine And.intro (fun _ => ?_) (by omega))
      · repeat (first | refine hJ _ _ _ _ ?_ | refine And.intro (by omega) (fun _ => ?_) | refine And.intro (by omega) ?_ | refine And.intro (fun _ => ?_) (by omega))
        refine And.intro (fun hd => ?_) (fun hd => ?_)
        · have hd' : h 11 c < h 9 c := by
            have he' : h 9 c ≠ h 11 c := he
            have hd2 : h 11 c ≤ h 9 c := hd
            omega
          have := vl_lt (B := 16777216) (by decide) (f := h 11) (g := h 9) (k := c) (fun j hj => L1 j (by omega)) (fun j hj => K1 j (by omega)) hd' (5 - (c + 1)) (fun j j1 j2 => (heq j (by omega) (by omega)).symm)
          rw [show c + 1 + (5 - (c + 1)) = 5 by omega, K2, L2] at this
          repeat (first | refine hJ _ _ _ _ ?_ | refine And.intro (by omega) (fun _ => ?_) | refine And.intro (by omega) ?_ | refine And.intro (fun _ => ?_) (by omega))
          exact h0 (by omega)
        · have := vl_lt (B := 16777216) (by decide) (f := h 9) (g := h 11) (k := c) (fun j hj => K1 j (by omega)) (fun j hj => L1 j (by omega)) hd (5 - (c + 1)) (fun j j1 j2 => heq j (by omega) (by omega))
          rw [show c + 1 + (5 - (c + 1)) = 5 by omega, K2, L2] at this
          repeat (first | refine hJ _ _ _ _ ?_ | refine And.intro (by omega) (fun _ => ?_) | refine And.intro (by omega) ?_ | refine And.intro (fun _ => ?_) (by omega))
          exact h1 this
  repeat (first | exact loop 5 _ (by omega) (by omega) (fun j j1 j2 => by omega) | refine hJ _ _ _ _ ?_ | refine And.intro (by omega) (fun _ => ?_) | refine And.intro (by omega) ?_ | refine And.intro (fun _ => ?_) (by omega))
def bw (cp : Nat → ge_P) (m : Nat) (w : Int) (i : Nat) : Int := if w = 0 then hs_h cp m i m else hs_s cp m i
abbrev bl (cp : Nat → ge_P) (m : Nat) (w : Int) (i f : Nat) : Prop := hs_h cp m i m * bw cp m w i * hs_l cp m f < hs_h cp m f m * bw cp m w f * hs_l cp m i
theorem bw_b {cp : Nat → ge_P} {m i : Nat} {w : Int} (hf : nf cp m) (hi : i < m) : (0 ≤ hs_h cp m i m ∧ hs_h cp m i m ≤ 200000000000) ∧ (0 ≤ bw cp m w i ∧ bw cp m w i ≤ 200000000000) ∧ (0 ≤ hs_l cp m i ∧ hs_l cp m i ≤ 200000000000) := by
  have b := hs_b hf hi m (Nat.le_refl _)
  have d := mp_d (hf i hi) (hf _ (nx_lt hi))
  unfold bw hs_s hs_l
  refine ⟨by omega, ?_, by omega⟩
  split <;> omega
set_option maxRecDepth 20000 in
set_option maxHeartbeats 2000000 in
theorem s_Hs_width {E : AE} {l : Launch} {h : AH} (H : pd_ok h) {m : Nat} {cp : Nat → ge_P} (K : hk h 4 m cp) (hf : nf cp m) {i : Nat} (hi : i < m) {w : Int} (hw : w = 0 ∨ w = 1) {Q : AR} (hQ : Q (some (.inr (.inl (bw cp m w i)))) h) : am_g E l 38 [.inr (.inr 7), .inl (i : Int), .inl w] h Q := by
  refine am_met T_Hs_width (by decide) (Nat.le_of_ble_eq_true rfl) (fun J hJ => ?_)
  rcases hw with rfl | rfl
  · repeat (first | refine hJ _ _ _ _ ?_ | refine And.intro (by omega) (fun _ => ?_) | refine And.intro (by omega) ?_ | refine And.intro (fun _ => ?_) (by omega))
    refine s_Hs_height H K hf hi ?_
    repeat (first | refine hJ _ _ _ _ ?_ | refine And.intro (by omega) (fun _ => ?_) | refine And.intro (by omega) ?_ | refine And.intro (fun _ => ?_) (by omega))
    exact hQ
  · repeat (first | refine hJ _ _ _ _ ?_ | refine And.intro (by omega) (fun _ => ?_) | refine And.intro (by omega) ?_ | refine And.intro (fun _ => ?_) (by omega))
    refine s_Hs_span H K hf hi ?_
    repeat (first | refine hJ _ _ _ _ ?_ | refine And.intro (by omega) (fun _ => ?_) | refine And.intro (by omega) ?_ | refine And.intro (fun _ => ?_) (by omega))
    exact hQ
theorem hk_cg {h h' : AH} {m : Nat} {cp : Nat → ge_P} (K : hk h 4 m cp) (e1 : h' 4 = h 4) (e2 : h' 6 = h 6) (e3 : h' 2 = h 2) (e4 : h' 3 = h 3) : hk h' 4 m cp := by
  unfold hk pd_p at *
  rw [e1, e2, e3, e4]
  exact K
set_option maxRecDepth 20000 in
set_option maxHeartbeats 2000000 in
theorem s_Hs_isLess {E : AE} {l : Launch} {h : AH} (H : pd_ok h) {m : Nat} {cp : Nat → ge_P} (K : hk h 4 m cp) (hf : nf cp m) {i f : Nat} (hi : i < m) (hfm : f < m) {w : Int} (hw : w = 0 ∨ w = 1) {Q : AR} (h1 : bl cp m w i f → ∀ h' : AH, (∀ c, c ≠ 9 → c ≠ 11 → h' c = h c) → Q (some (.inl 1)) h') (h0 : ¬ bl cp m w i f → ∀ h' : AH, (∀ c, c ≠ 9 → c ≠ 11 → h' c = h c) → Q (some (.inl 0)) h') : am_g E l 43 [.inr (.inr 7), .inl (i : Int), .inl (f : Int), .inl w] h Q := by
  have bi := bw_b (w := w) hf hi
  have bf := bw_b (w := w) hf hfm
  refine am_met T_Hs_isLess (by decide) (Nat.le_of_ble_eq_true rfl) (fun J hJ => ?_)
  repeat (first | refine hJ _ _ _ _ ?_ | refine And.intro (by omega) (fun _ => ?_) | refine And.intro (by omega) ?_ | refine And.intro (fun _ => ?_) (by omega))
  refine s_Hs_height H K hf hi ?_
  repeat (first | refine hJ _ _ _ _ ?_ | refine And.intro (by omega) (fun _ => ?_) | refine And.intro (by omega) ?_ | refine And.intro (fun _ => ?_) (by omega))
  refine s_Hs_width H K hf hi hw ?_
  repeat (first | refine hJ _ _ _ _ ?_ | refine And.intro (by omega) (fun _ => ?_) | refine And.intro (by omega) ?_ | refine And.intro (fun _ => ?_) (by omega))
  refine s_Hs_length H K hfm ?_
  repeat (first | refine hJ _ _ _ _ ?_ | refine And.intro (by omega) (fun _ => ?_) | refine And.intro (by omega) ?_ | refine And.intro (fun _ => ?_) (by omega))
  refine s_Wi_setTo (.inl rfl) bi.1.1 bi.1.2 bi.2.1.1 bi.2.1.2 bf.2.2.1 bf.2.2.2 (fun g1 o1 W1 => ?_)
  have o1 : ∀ q, q ≠ 9 → g1 q = h q := o1
  have H1 : pd_ok g1 := pd_ok_cg H (o1 2 (by decide)) (o1 3 (by decide))
  have K1 : hk g1 4 m cp := hk_cg K (o1 4 (by decide)) (o1 6 (by decide)) (o1 2 (by decide)) (o1 3 (by decide))
  repeat (first | refine hJ _ _ _ _ ?_ | refine And.intro (by omega) (fun _ => ?_) | refine And.intro (by omega) ?_ | refine And.intro (fun _ => ?_) (by omega))
  refine s_Hs_height H1 K1 hf hfm ?_
  repeat (first | refine hJ _ _ _ _ ?_ | refine And.intro (by omega) (fun _ => ?_) | refine And.intro (by omega) ?_ | refine And.intro (fun _ => ?_) (by omega))
  refine s_Hs_width H1 K1 hf hfm hw ?_
  repeat (first | refine hJ _ _ _ _ ?_ | refine And.intro (by omega) (fun _ => ?_) | refine And.intro (by omega) ?_ | refine And.intro (fun _ => ?_) (by omega))
  refine s_Hs_length H1 K1 hi ?_
  repeat (first | refine hJ _ _ _ _ ?_ | refine And.intro (by omega) (fun _ => ?_) | refine And.intro (by omega) ?_ | refine And.intro (fun _ => ?_) (by omega))
  refine s_Wi_setTo (.inr rfl) bf.1.1 bf.1.2 bf.2.1.1 bf.2.1.2 bi.2.2.1 bi.2.2.2 (fun g2 o2 W2 => ?_)
  have o2 : ∀ q, q ≠ 11 → g2 q = g1 q := o2
  have W1' : wk_ g2 8 (hs_h cp m i m * bw cp m w i * hs_l cp m f) := by
    unfold wk_ at *
    rw [show g2 (8 + 1) = g1 (8 + 1) from o2 9 (by decide)]
    exact W1
  have fr : ∀ c, c ≠ 9 → c ≠ 11 → g2 c = h c := fun c c1 c2 => by rw [o2 c c2, o1 c c1]
  repeat (first | refine hJ _ _ _ _ ?_ | refine And.intro (by omega) (fun _ => ?_) | refine And.intro (by omega) ?_ | refine And.intro (fun _ => ?_) (by omega))
  refine s_Wi_isBelow W1' W2 (fun g => ?_) (fun g => ?_)
  · repeat (first | refine hJ _ _ _ _ ?_ | refine And.intro (by omega) (fun _ => ?_) | refine And.intro (by omega) ?_ | refine And.intro (fun _ => ?_) (by omega))
    exact h1 g g2 fr
  · repeat (first | refine hJ _ _ _ _ ?_ | refine And.intro (by omega) (fun _ => ?_) | refine And.intro (by omega) ?_ | refine And.intro (fun _ => ?_) (by omega))
    exact h0 g g2 fr
/-- the best side among the first k -/
def bs (cp : Nat → ge_P) (m : Nat) (w : Int) (k : Nat) : Nat := fo (fun i f => if bl cp m w i f then i else f) 0 1 k
theorem bs_s (cp : Nat → ge_P) (m : Nat) (w : Int) {k : Nat} (hk : 1 ≤ k) : bs cp m w (k + 1) = if bl cp m w k (bs cp m w k) then k else bs cp m w k := fo_s hk
theorem bs_lt (cp : Nat → ge_P) (m : Nat) (w : Int) : ∀ k, 1 ≤ k → bs cp m w k < k := by
  intro k
  induction k with
  | zero => intro h; omega
  | succ k ih =>
    intro _
    rcases (show k = 0 ∨ 1 ≤ k by omega) with q | q
    · subst q
      have e : bs cp m w (0 + 1) = 0 := fo_0 (Nat.le_refl _)
      rw [e]; omega
    · rw [bs_s cp m w q]
      have := ih q
      split <;> omega
set_option maxRecDepth 20000 in
set_option maxHeartbeats 2000000 in
theorem s_Hs_firstLeast {E : AE} {l : Launch} {h : AH} (H : pd_ok h) {m : Nat} {cp : Nat → ge_P} (K : hk h 4 m cp) (hf : nf cp m) (h3 : 3 ≤ m) {w : Int} (hw : w = 0 ∨ w = 1) {Q : AR} (hQ : ∀ h' : AH, (∀ c, c ≠ 9 → c ≠ 11 → h' c = h c) → Q (some (.inl (bs cp m w m : Int))) h') : am_g E l 44 [.inr (.inr 7), .inl w] h Q := by
  have m60 := K.2.1
  have hm := K.1
  refine am_met T_Hs_firstLeast (by decide) (Nat.le_of_ble_eq_true rfl) (fun J hJ => ?_)
  have loop : ∀ d k : Nat, ∀ (g : AH) (f : Nat), k + d = m → 1 ≤ k → f = bs cp m w k → (∀ c, c ≠ 9 → c ≠ 11 → g c = h c) → J 4 [some (.inr (.inr 7)), some (.inl w), some (.inl (f : Int)), some (.inl (k : Int))] [] g := by
    intro d
    induction d with
    | zero =>
      intro k g f hkd h1 hfe fr
      have hmg : g 4 3 = (m : Int) := by rw [fr 4 (by decide) (by decide)]; exact hm
      have : k = m := by omega
      subst this
      repeat (first | refine hJ _ _ _ _ ?_ | refine And.intro (by omega) (fun _ => ?_) | refine And.intro (by omega) ?_ | refine And.intro (fun _ => ?_) (by omega))
      rw [hfe]
      exact hQ g fr
    | succ d ih =>
      intro k g f hkd h1 hfe fr
      have hmg : g 4 3 = (m : Int) := by rw [fr 4 (by decide) (by decide)]; exact hm
      have hlt := bs_lt cp m w k h1
      rw [← hfe] at hlt
      have Hg : pd_ok g := pd_ok_cg H (fr 2 (by decide) (by decide)) (fr 3 (by decide) (by decide))
      have Kg : hk g 4 m cp := hk_cg K (fr 4 (by decide) (by decide)) (fr 6 (by decide) (by decide)) (fr 2 (by decide) (by decide)) (fr 3 (by decide) (by decide))
      have es := bs_s cp m w h1
      rw [← hfe] at es
      repeat (first | refine hJ _ _ _ _ ?_ | refine And.intro (by omega) (fun _ => ?_) | refine And.intro (by omega) ?_ | refine And.intro (fun _ => ?_) (by omega))
      refine s_Hs_isLess Hg Kg hf (by omega) (by omega) hw (fun hb g' fr' => ?_) (fun hb g' fr' => ?_)
      · repeat (first | exact ih (k + 1) g' k (by omega) (by omega) (by rw [es, if_pos hb]) (fun c c1 c2 => by rw [fr' c c1 c2, fr c c1 c2]) | refine hJ _ _ _ _ ?_ | refine And.intro (by omega) (fun _ => ?_) | refine And.intro (by omega) ?_ | refine And.intro (fun _ => ?_) (by omega))
      · repeat (first | exact ih (k + 1) g' f (by omega) (by omega) (by rw [es, if_neg hb]) (fun c c1 c2 => by rw [fr' c c1 c2, fr c c1 c2]) | refine hJ _ _ _ _ ?_ | refine And.intro (by omega) (fun _ => ?_) | refine And.intro (by omega) ?_ | refine And.intro (fun _ => ?_) (by omega))
  repeat (first | exact loop (m - 1) 1 h 0 (by omega) (by omega) (fo_0 (Nat.le_refl _)).symm (fun _ _ _ => rfl) | refine hJ _ _ _ _ ?_ | refine And.intro (by omega) (fun _ => ?_) | refine And.intro (by omega) ?_ | refine And.intro (fun _ => ?_) (by omega))
theorem ic_cg9 {k n m : Nat} {pt : Nat → ge_P} {rt : Nat → Nat} {rg : Nat → ge_P} {h h' : AH} (C : ic k n m pt rt rg h) (f : ∀ c, c ≠ 9 → c ≠ 11 → h' c = h c) : ic k n m pt rt rg h' := by
  obtain ⟨c1, c2, c3, c4, c5, c6, c7⟩ := C
  have f' : ∀ c, c ≠ 9 ∧ c ≠ 11 → h' c = h c := fun c hc => f c hc.1 hc.2
  exact ⟨icP_cg c1 (f' _ (by decide)) (f' _ (by decide)) (f' _ (by decide)), icR_cg c2 (f' _ (by decide)) (f' _ (by decide)), icV_cg c3 (f' _ (by decide)) (f' _ (by decide)), icH_cg c4 (f' _ (by decide)) (f' _ (by decide)) (f' _ (by decide)), icL_cg c5 (f' _ (by decide)) (f' _ (by decide)) (f' _ (by decide)), icC_cg c6 (f' _ (by decide)) (f' _ (by decide)) (f' _ (by decide)), icT_cg c7 (f' _ (by decide)) (f' _ (by decide)) (f' _ (by decide))⟩
abbrev an_best (pt : Nat → ge_P) (n : Nat) (w : Int) : Int := if 3 ≤ hu_m pt (fun _ => true) n ∧ (w = 0 ∨ w = 1) then (bs (hu_p pt (fun _ => true) n) (hu_m pt (fun _ => true) n) w (hu_m pt (fun _ => true) n) : Int) else -1
set_option maxRecDepth 20000 in
set_option maxHeartbeats 2000000 in
theorem c_best {E : AE} {l : Launch} {k n m : Nat} {pt : Nat → ge_P} {rt : Nat → Nat} {rg : Nat → ge_P} {h : AH} (C : ic k n m pt rt rg h) (hk : k ≤ 600) (hf : nf (hu_p pt (fun _ => true) n) (hu_m pt (fun _ => true) n)) {w : Int} (hw : lo_r w) : am_g E l 45 [.inr (.inr 0), .inl w] h (cq (k + 1) n m pt rt rg h (some (.inl (an_best pt n w)))) := by
  have hle := hu_m_le pt (fun _ => true) n
  have p2 := C.1.2.1
  refine am_met T_De_best (by decide) (Nat.le_of_ble_eq_true rfl) (fun J hJ => ?_)
  repeat (first | refine hJ _ _ _ _ ?_ | refine And.intro (by omega) (fun _ => ?_) | refine And.intro (by omega) ?_ | refine And.intro (fun _ => ?_) (by omega))
  refine am_g_mono (ic_hull C hk) ?_
  rintro r h1 ⟨rfl, f, C1, V⟩
  have hC : ∀ v, cq (k + 1) n m pt rt rg h v v h1 := fun v => ⟨rfl, fun c hc => f c (by omega) (by omega) (by omega), ic_mono C1 (by omega)⟩
  have V1 := V.1
  by_cases hy : 3 ≤ hu_m pt (fun _ => true) n ∧ (w = 0 ∨ w = 1)
  · have e : an_best pt n w = (bs (hu_p pt (fun _ => true) n) (hu_m pt (fun _ => true) n) w (hu_m pt (fun _ => true) n) : Int) := if_pos hy
    have last : J 29 [some (.inr (.inr 0)), some (.inl w)] [] h1 := by
      repeat (first | refine hJ _ _ _ _ ?_ | refine And.intro (by omega) (fun _ => ?_) | refine And.intro (by omega) ?_ | refine And.intro (fun _ => ?_) (by omega))
      refine s_Hs_firstLeast C1.1.2.2.1 (hv_hk C1 V) hf hy.1 hy.2 (fun g fr => ?_)
      repeat (first | refine hJ _ _ _ _ ?_ | refine And.intro (by omega) (fun _ => ?_) | refine And.intro (by omega) ?_ | refine And.intro (fun _ => ?_) (by omega))
      rw [e]
      exact ⟨rfl, fun c hc => by rw [fr c (by omega) (by omega)]; exact f c (by omega) (by omega) (by omega), ic_mono (ic_cg9 C1 fr) (by omega)⟩
    rcases hy.2 with rfl | rfl
    · repeat (first | exact last | refine hJ _ _ _ _ ?_ | refine And.intro (by omega) (fun _ => ?_) | refine And.intro (by omega) ?_ | refine And.intro (fun _ => ?_) (by omega))
    · repeat (first | exact last | refine hJ _ _ _ _ ?_ | refine And.intro (by omega) (fun _ => ?_) | refine And.intro (by omega) ?_ | refine And.intro (fun _ => ?_) (by omega))
  · have e : an_best pt n w = -1 := if_neg hy
    by_cases g3 : 3 ≤ hu_m pt (fun _ => true) n
    · have : ¬ (w = 0 ∨ w = 1) := fun g => hy ⟨g3, g⟩
      repeat (first | refine hJ _ _ _ _ ?_ | refine And.intro (by omega) (fun _ => ?_) | refine And.intro (by omega) ?_ | refine And.intro (fun _ => ?_) (by omega))
      rw [e]
      exact hC _
    · repeat (first | refine hJ _ _ _ _ ?_ | refine And.intro (by omega) (fun _ => ?_) | refine And.intro (by omega) ?_ | refine And.intro (fun _ => ?_) (by omega))
      rw [e]
      exact hC _
