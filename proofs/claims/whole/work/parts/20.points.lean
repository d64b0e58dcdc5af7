/-! the class: points -/
/-- the i-th place of the class's points -/
def pd_p (h : AH) (i : Int) : ge_P := (h 2 i.toNat, h 3 i.toNat)
/-- its numbers are small -/
def pd_ok (h : AH) : Prop := ∀ i : Nat, i < 61 → -100000 ≤ h 2 i ∧ h 2 i ≤ 100000 ∧ -100000 ≤ h 3 i ∧ h 3 i ≤ 100000
theorem pd_ok_i {h : AH} (H : pd_ok h) {i : Int} (h1 : 0 ≤ i) (h2 : i < 61) : (-100000 ≤ h 2 i.toNat ∧ h 2 i.toNat ≤ 100000) ∧ (-100000 ≤ h 3 i.toNat ∧ h 3 i.toNat ≤ 100000) := by
  have := H i.toNat (by omega)
  omega
set_option maxRecDepth 20000 in
set_option maxHeartbeats 1000000 in
theorem s_Po_crossProduct {E : AE} {l : Launch} {h : AH} (H : pd_ok h) {a b p : Int} (a1 : 0 ≤ a) (a2 : a < 61) (b1 : 0 ≤ b) (b2 : b < 61) (p1 : 0 ≤ p) (p2 : p < 61) {Q : AR} (hQ : Q (some (.inr (.inl (ge_x (pd_p h a) (pd_p h b) (pd_p h p))))) h) : am_g E l 11 [.inr (.inr 1), .inl a, .inl b, .inl p] h Q := by
  refine am_met T_Po_crossProduct (by decide) (Nat.le_of_ble_eq_true rfl) (fun J hJ => ?_)
  have ra := pd_ok_i H a1 a2
  have rb := pd_ok_i H b1 b2
  have rp := pd_ok_i H p1 p2
  repeat (first | refine hJ _ _ _ _ ?_ | refine And.intro (by omega) ?_)
  exact hQ
