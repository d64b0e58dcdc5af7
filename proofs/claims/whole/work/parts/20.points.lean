/-! the class: points -/
/-- the i-th place of the class's points -/
def pd_p (h : AH) (i : Int) : ge_P := (h 2 i.toNat, h 3 i.toNat)
/-- its numbers are small -/
def pd_ok (h : AH) : Prop := ∀ i : Nat, i < 61 → -100000 ≤ h 2 i ∧ h 2 i ≤ 100000 ∧ -100000 ≤ h 3 i ∧ h 3 i ≤ 100000
theorem pd_ok_i {h : AH} (H : pd_ok h) {i : Int} (h1 : 0 ≤ i) (h2 : i < 61) : (-100000 ≤ h 2 i.toNat ∧ h 2 i.toNat ≤ 100000) ∧ (-100000 ≤ h 3 i.toNat ∧ h 3 i.toNat ≤ 100000) := by
  have := H i.toNat (by omega)
  omega
/-- products of differences are small -/
theorem pd_mul {a b c d : Int} (a1 : -100000 ≤ a) (a2 : a ≤ 100000) (b1 : -100000 ≤ b) (b2 : b ≤ 100000) (c1 : -100000 ≤ c) (c2 : c ≤ 100000) (d1 : -100000 ≤ d) (d2 : d ≤ 100000) : -40000000000 ≤ (a - b) * (c - d) ∧ (a - b) * (c - d) ≤ 40000000000 := by
  have h1 := Int.mul_nonneg (show 0 ≤ 200000 - (a - b) by omega) (show 0 ≤ 200000 - (c - d) by omega)
  have h2 := Int.mul_nonneg (show 0 ≤ 200000 + (a - b) by omega) (show 0 ≤ 200000 + (c - d) by omega)
  have h3 := Int.mul_nonneg (show 0 ≤ 200000 - (a - b) by omega) (show 0 ≤ 200000 + (c - d) by omega)
  have h4 := Int.mul_nonneg (show 0 ≤ 200000 + (a - b) by omega) (show 0 ≤ 200000 - (c - d) by omega)
  have e1 : (200000 - (a - b)) * (200000 - (c - d)) = 40000000000 - 200000 * (a - b) - 200000 * (c - d) + (a - b) * (c - d) := by grind
  have e2 : (200000 + (a - b)) * (200000 + (c - d)) = 40000000000 + 200000 * (a - b) + 200000 * (c - d) + (a - b) * (c - d) := by grind
  have e3 : (200000 - (a - b)) * (200000 + (c - d)) = 40000000000 - 200000 * (a - b) + 200000 * (c - d) - (a - b) * (c - d) := by grind
  have e4 : (200000 + (a - b)) * (200000 - (c - d)) = 40000000000 + 200000 * (a - b) - 200000 * (c - d) - (a - b) * (c - d) := by grind
  omega
theorem pd_x_b {h : AH} (H : pd_ok h) {a b p : Int} (a1 : 0 ≤ a) (a2 : a < 61) (b1 : 0 ≤ b) (b2 : b < 61) (p1 : 0 ≤ p) (p2 : p < 61) : -80000000000 ≤ ge_x (pd_p h a) (pd_p h b) (pd_p h p) ∧ ge_x (pd_p h a) (pd_p h b) (pd_p h p) ≤ 80000000000 := by
  have ra := pd_ok_i H a1 a2
  have rb := pd_ok_i H b1 b2
  have rp := pd_ok_i H p1 p2
  have m1 := pd_mul rb.1.1 rb.1.2 ra.1.1 ra.1.2 rp.2.1 rp.2.2 ra.2.1 ra.2.2
  have m2 := pd_mul rb.2.1 rb.2.2 ra.2.1 ra.2.2 rp.1.1 rp.1.2 ra.1.1 ra.1.2
  show -80000000000 ≤ (h 2 b.toNat - h 2 a.toNat) * (h 3 p.toNat - h 3 a.toNat) - (h 3 b.toNat - h 3 a.toNat) * (h 2 p.toNat - h 2 a.toNat) ∧ (h 2 b.toNat - h 2 a.toNat) * (h 3 p.toNat - h 3 a.toNat) - (h 3 b.toNat - h 3 a.toNat) * (h 2 p.toNat - h 2 a.toNat) ≤ 80000000000
  omega
/-- the product along -/
def ge_dot (a b p : ge_P) : Int := (b.1 - a.1) * (p.1 - a.1) + (b.2 - a.2) * (p.2 - a.2)
theorem pd_dot_b {h : AH} (H : pd_ok h) {a b p : Int} (a1 : 0 ≤ a) (a2 : a < 61) (b1 : 0 ≤ b) (b2 : b < 61) (p1 : 0 ≤ p) (p2 : p < 61) : -80000000000 ≤ ge_dot (pd_p h a) (pd_p h b) (pd_p h p) ∧ ge_dot (pd_p h a) (pd_p h b) (pd_p h p) ≤ 80000000000 := by
  have ra := pd_ok_i H a1 a2
  have rb := pd_ok_i H b1 b2
  have rp := pd_ok_i H p1 p2
  have m1 := pd_mul rb.1.1 rb.1.2 ra.1.1 ra.1.2 rp.1.1 rp.1.2 ra.1.1 ra.1.2
  have m2 := pd_mul rb.2.1 rb.2.2 ra.2.1 ra.2.2 rp.2.1 rp.2.2 ra.2.1 ra.2.2
  show -80000000000 ≤ (h 2 b.toNat - h 2 a.toNat) * (h 2 p.toNat - h 2 a.toNat) + (h 3 b.toNat - h 3 a.toNat) * (h 3 p.toNat - h 3 a.toNat) ∧ (h 2 b.toNat - h 2 a.toNat) * (h 2 p.toNat - h 2 a.toNat) + (h 3 b.toNat - h 3 a.toNat) * (h 3 p.toNat - h 3 a.toNat) ≤ 80000000000
  omega
theorem pd_d_b {h : AH} (H : pd_ok h) {a b : Int} (a1 : 0 ≤ a) (a2 : a < 61) (b1 : 0 ≤ b) (b2 : b < 61) : 0 ≤ hu_d (pd_p h a) (pd_p h b) ∧ hu_d (pd_p h a) (pd_p h b) ≤ 80000000000 := by
  have e : hu_d (pd_p h a) (pd_p h b) = ge_dot (pd_p h a) (pd_p h b) (pd_p h b) := rfl
  have := pd_dot_b H a1 a2 b1 b2 b1 b2
  have q1 := hu_sq ((pd_p h b).1 - (pd_p h a).1)
  have q2 := hu_sq ((pd_p h b).2 - (pd_p h a).2)
  refine ⟨?_, by omega⟩
  unfold hu_d
  omega
set_option maxRecDepth 20000 in
set_option maxHeartbeats 1000000 in
theorem s_Po_crossProduct {E : AE} {l : Launch} {h : AH} (H : pd_ok h) {a b p : Int} (a1 : 0 ≤ a) (a2 : a < 61) (b1 : 0 ≤ b) (b2 : b < 61) (p1 : 0 ≤ p) (p2 : p < 61) {Q : AR} (hQ : Q (some (.inr (.inl (ge_x (pd_p h a) (pd_p h b) (pd_p h p))))) h) : am_g E l 11 [.inr (.inr 1), .inl a, .inl b, .inl p] h Q := by
  refine am_met T_Po_crossProduct (by decide) (Nat.le_of_ble_eq_true rfl) (fun J hJ => ?_)
  have ra := pd_ok_i H a1 a2
  have rb := pd_ok_i H b1 b2
  have rp := pd_ok_i H p1 p2
  repeat (first | refine hJ _ _ _ _ ?_ | refine And.intro (by omega) ?_)
  exact hQ
set_option maxRecDepth 20000 in
set_option maxHeartbeats 1000000 in
theorem s_Po_dotProduct {E : AE} {l : Launch} {h : AH} (H : pd_ok h) {a b p : Int} (a1 : 0 ≤ a) (a2 : a < 61) (b1 : 0 ≤ b) (b2 : b < 61) (p1 : 0 ≤ p) (p2 : p < 61) {Q : AR} (hQ : Q (some (.inr (.inl (ge_dot (pd_p h a) (pd_p h b) (pd_p h p))))) h) : am_g E l 17 [.inr (.inr 1), .inl a, .inl b, .inl p] h Q := by
  refine am_met T_Po_dotProduct (by decide) (Nat.le_of_ble_eq_true rfl) (fun J hJ => ?_)
  have ra := pd_ok_i H a1 a2
  have rb := pd_ok_i H b1 b2
  have rp := pd_ok_i H p1 p2
  repeat (first | refine hJ _ _ _ _ ?_ | refine And.intro (by omega) ?_)
  exact hQ
set_option maxRecDepth 20000 in
set_option maxHeartbeats 1000000 in
theorem s_Po_squaredDistance {E : AE} {l : Launch} {h : AH} (H : pd_ok h) {a b : Int} (a1 : 0 ≤ a) (a2 : a < 61) (b1 : 0 ≤ b) (b2 : b < 61) {Q : AR} (hQ : Q (some (.inr (.inl (hu_d (pd_p h a) (pd_p h b))))) h) : am_g E l 12 [.inr (.inr 1), .inl a, .inl b] h Q := by
  refine am_met T_Po_squaredDistance (by decide) (Nat.le_of_ble_eq_true rfl) (fun J hJ => ?_)
  have ra := pd_ok_i H a1 a2
  have rb := pd_ok_i H b1 b2
  repeat (first | refine hJ _ _ _ _ ?_ | refine And.intro (by omega) ?_)
  exact hQ
set_option maxRecDepth 20000 in
set_option maxHeartbeats 1000000 in
theorem s_Po_roundProduct {E : AE} {l : Launch} {h : AH} (H : pd_ok h) {a b : Int} (a1 : 0 ≤ a) (a2 : a < 61) (b1 : 0 ≤ b) (b2 : b < 61) {Q : AR} (hQ : Q (some (.inr (.inl (ge_r (pd_p h a) (pd_p h b))))) h) : am_g E l 70 [.inr (.inr 1), .inl a, .inl b] h Q := by
  refine am_met T_Po_roundProduct (by decide) (Nat.le_of_ble_eq_true rfl) (fun J hJ => ?_)
  have ra := pd_ok_i H a1 a2
  have rb := pd_ok_i H b1 b2
  repeat (first | refine hJ _ _ _ _ ?_ | refine And.intro (by omega) ?_)
  exact hQ
set_option maxRecDepth 20000 in
set_option maxHeartbeats 1000000 in
theorem s_Po_areAtOnePlace {E : AE} {l : Launch} {h : AH} (H : pd_ok h) {a b : Int} (a1 : 0 ≤ a) (a2 : a < 61) (b1 : 0 ≤ b) (b2 : b < 61) {Q : AR} (h1 : pd_p h a = pd_p h b → Q (some (.inl 1)) h) (h0 : pd_p h a ≠ pd_p h b → Q (some (.inl 0)) h) : am_g E l 10 [.inr (.inr 1), .inl a, .inl b] h Q := by
  refine am_met T_Po_areAtOnePlace (by decide) (Nat.le_of_ble_eq_true rfl) (fun J hJ => ?_)
  have ra := pd_ok_i H a1 a2
  have rb := pd_ok_i H b1 b2
  repeat (first | refine hJ _ _ _ _ ?_ | refine And.intro (by omega) ?_)
  refine And.intro (fun hc => ?_) (fun hc => ?_)
  · repeat (first | refine hJ _ _ _ _ ?_ | refine And.intro (by omega) ?_)
    exact h0 (fun z => hc (congrArg Prod.fst z))
  · repeat (first | refine hJ _ _ _ _ ?_ | refine And.intro (by omega) ?_)
    refine And.intro (fun hd => ?_) (fun hd => ?_)
    · repeat (first | refine hJ _ _ _ _ ?_ | refine And.intro (by omega) ?_)
      exact h0 (fun z => hd (congrArg Prod.snd z))
    · repeat (first | refine hJ _ _ _ _ ?_ | refine And.intro (by omega) ?_)
      exact h1 (Prod.ext hc hd)
set_option maxRecDepth 20000 in
set_option maxHeartbeats 1000000 in
theorem s_Po_handOf {E : AE} {l : Launch} {h : AH} (H : pd_ok h) {a b p : Int} (a1 : 0 ≤ a) (a2 : a < 61) (b1 : 0 ≤ b) (b2 : b < 61) (p1 : 0 ≤ p) (p2 : p < 61) {Q : AR} (h1 : 0 < ge_x (pd_p h a) (pd_p h b) (pd_p h p) → Q (some (.inl 1)) h) (h0 : ge_x (pd_p h a) (pd_p h b) (pd_p h p) = 0 → Q (some (.inl 0)) h) (hm : ge_x (pd_p h a) (pd_p h b) (pd_p h p) < 0 → Q (some (.inl (-1))) h) : am_g E l 51 [.inr (.inr 1), .inl a, .inl b, .inl p] h Q := by
  refine am_met T_Po_handOf (by decide) (Nat.le_of_ble_eq_true rfl) (fun J hJ => ?_)
  have hb := pd_x_b H a1 a2 b1 b2 p1 p2
  repeat (first | refine hJ _ _ _ _ ?_ | refine And.intro (by omega) ?_)
  refine s_Po_crossProduct H a1 a2 b1 b2 p1 p2 ?_
  repeat (first | refine hJ _ _ _ _ ?_ | refine And.intro (by omega) ?_)
  refine And.intro (fun hc => ?_) (fun hc => ?_)
  · repeat (first | refine hJ _ _ _ _ ?_ | refine And.intro (by omega) ?_)
    refine And.intro (fun hd => ?_) (fun hd => ?_)
    · repeat (first | refine hJ _ _ _ _ ?_ | refine And.intro (by omega) ?_)
      exact h0 (by omega)
    · repeat (first | refine hJ _ _ _ _ ?_ | refine And.intro (by omega) ?_)
      exact hm hd
  · repeat (first | refine hJ _ _ _ _ ?_ | refine And.intro (by omega) ?_)
    exact h1 hc
