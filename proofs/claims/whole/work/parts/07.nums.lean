/-! whole numbers for ints and longs -/
theorem nu_i {a : Int} (h1 : -2147483648 ≤ a) (h2 : a < 2147483648) : (Int32.ofInt a).toInt = a := Int32.toInt_ofInt_of_le (by simpa using h1) (by simpa using h2)
theorem nu_l {a : Int} (h1 : -9223372036854775808 ≤ a) (h2 : a < 9223372036854775808) : (Int64.ofInt a).toInt = a := Int64.toInt_ofInt_of_le (by simpa using h1) (by simpa using h2)
theorem nu_lt {a b : Int} (a1 : -2147483648 ≤ a) (a2 : a < 2147483648) (b1 : -2147483648 ≤ b) (b2 : b < 2147483648) : Int32.ofInt a < Int32.ofInt b ↔ a < b := by
  rw [Int32.lt_iff_toInt_lt, nu_i a1 a2, nu_i b1 b2]
theorem nu_le {a b : Int} (a1 : -2147483648 ≤ a) (a2 : a < 2147483648) (b1 : -2147483648 ≤ b) (b2 : b < 2147483648) : Int32.ofInt a ≤ Int32.ofInt b ↔ a ≤ b := by
  rw [Int32.le_iff_toInt_le, nu_i a1 a2, nu_i b1 b2]
theorem nu_eq {a b : Int} (a1 : -2147483648 ≤ a) (a2 : a < 2147483648) (b1 : -2147483648 ≤ b) (b2 : b < 2147483648) : Int32.ofInt a = Int32.ofInt b ↔ a = b := by
  constructor
  · intro h
    have := congrArg Int32.toInt h
    rwa [nu_i a1 a2, nu_i b1 b2] at this
  · intro h; rw [h]
theorem nu_llt {a b : Int} (a1 : -9223372036854775808 ≤ a) (a2 : a < 9223372036854775808) (b1 : -9223372036854775808 ≤ b) (b2 : b < 9223372036854775808) : Int64.ofInt a < Int64.ofInt b ↔ a < b := by
  rw [Int64.lt_iff_toInt_lt, nu_l a1 a2, nu_l b1 b2]
theorem nu_leq {a b : Int} (a1 : -9223372036854775808 ≤ a) (a2 : a < 9223372036854775808) (b1 : -9223372036854775808 ≤ b) (b2 : b < 9223372036854775808) : Int64.ofInt a = Int64.ofInt b ↔ a = b := by
  constructor
  · intro h
    have := congrArg Int64.toInt h
    rwa [nu_l a1 a2, nu_l b1 b2] at this
  · intro h; rw [h]
theorem nu_add (a b : Int) : Int32.ofInt a + Int32.ofInt b = Int32.ofInt (a + b) := (Int32.ofInt_add a b).symm
theorem nu_mul (a b : Int) : Int32.ofInt a * Int32.ofInt b = Int32.ofInt (a * b) := (Int32.ofInt_mul a b).symm
theorem nu_sub (a b : Int) : Int32.ofInt a - Int32.ofInt b = Int32.ofInt (a - b) := (Int32.ofInt_sub a b).symm
theorem nu_ladd (a b : Int) : Int64.ofInt a + Int64.ofInt b = Int64.ofInt (a + b) := (Int64.ofInt_add a b).symm
theorem nu_lmul (a b : Int) : Int64.ofInt a * Int64.ofInt b = Int64.ofInt (a * b) := (Int64.ofInt_mul a b).symm
theorem nu_lsub (a b : Int) : Int64.ofInt a - Int64.ofInt b = Int64.ofInt (a - b) := (Int64.ofInt_sub a b).symm
theorem nu_i2l {a : Int} (h1 : -2147483648 ≤ a) (h2 : a < 2147483648) : (Int32.ofInt a).toInt64 = Int64.ofInt a := by
  apply Int64.toInt.inj
  rw [Int32.toInt_toInt64, nu_i h1 h2, nu_l (by omega) (by omega)]
theorem nu_cmp {a b : Int} (a1 : -9223372036854775808 ≤ a) (a2 : a < 9223372036854775808) (b1 : -9223372036854775808 ≤ b) (b2 : b < 9223372036854775808) : lg_cmp (Int64.ofInt a) (Int64.ofInt b) = Int32.ofInt (if b < a then 1 else if a = b then 0 else -1) := by
  unfold lg_cmp
  have h1 := nu_llt b1 b2 a1 a2
  have h2 := nu_leq a1 a2 b1 b2
  by_cases g1 : b < a
  · rw [if_pos (h1.mpr g1), if_pos g1]; rfl
  · rw [if_neg (fun q => g1 (h1.mp q)), if_neg g1]
    by_cases g2 : a = b
    · rw [if_pos (h2.mpr g2), if_pos g2]; rfl
    · rw [if_neg (fun q => g2 (h2.mp q)), if_neg g2]; rfl
theorem nu_nat {a : Int} (h1 : 0 ≤ a) (h2 : a < 2147483648) : (Int32.ofInt a).toNatClampNeg = a.toNat := by
  show (Int32.ofInt a).toInt.toNat = a.toNat
  rw [nu_i (by omega) h2]
theorem nu_in {a : Int} {n : Nat} (h1 : 0 ≤ a) (h2 : a < n) (hn : n < 2147483648) : vp_in (Int32.ofInt a) n := by
  unfold vp_in
  rw [nu_nat h1 (by omega)]
  intro h
  rcases h with h | h
  · have := (nu_lt (a := a) (b := 0) (by omega) (by omega) (by omega) (by omega)).mp h
    omega
  · omega
theorem nu_div {a b : Int} (a1 : 0 ≤ a) (a2 : a < 2147483648) (b1 : 0 < b) (b2 : b < 2147483648) : Int32.ofInt a / Int32.ofInt b = Int32.ofInt (a / b) := by
  apply Int32.toInt.inj
  have h1 := Int.ediv_nonneg a1 (show 0 ≤ b by omega)
  have h2 : a / b ≤ a := Int.ediv_le_self b a1
  rw [Int32.toInt_div, nu_i (by omega) a2, nu_i (by omega) b2, nu_i (by omega) (by omega)]
  rw [Int.tdiv_eq_ediv_of_nonneg a1]
  rw [Int.bmod_eq_of_le (by omega) (by omega)]
theorem nu_rem {a b : Int} (a1 : 0 ≤ a) (a2 : a < 2147483648) (b1 : 0 < b) (b2 : b < 2147483648) : Int32.ofInt a - Int32.ofInt a / Int32.ofInt b * Int32.ofInt b = Int32.ofInt (a % b) := by
  rw [nu_div a1 a2 b1 b2, nu_mul, nu_sub]
  congr 1
  have := Int.emod_add_mul_ediv a b
  rw [Int.mul_comm] at this
  omega
