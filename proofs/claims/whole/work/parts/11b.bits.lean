/-! masks and shifts of longs -/
theorem nu_and {a : Int} {k : Nat} (h1 : 0 ≤ a) (h2 : a < 9223372036854775808) (hk : k < 63) : Int64.ofInt a &&& Int64.ofInt (2 ^ k - 1 : Nat) = Int64.ofInt (a % (2 ^ k : Nat)) := by
  obtain ⟨n, rfl⟩ : ∃ n : Nat, a = n := ⟨a.toNat, by omega⟩
  have e : ∀ m : Nat, Int64.ofInt (m : Int) = Int64.ofNat m := fun m => rfl
  rw [show ((n : Int) % ((2 ^ k : Nat) : Int)) = ((n % 2 ^ k : Nat) : Int) from (Int.natCast_emod n (2 ^ k)).symm, e, e, e]
  apply Int64.toBitVec.inj
  apply BitVec.eq_of_toNat_eq
  have hn : n < 2 ^ 64 := by omega
  have hk2 : 2 ^ k < 2 ^ 64 := Nat.pow_lt_pow_right (by omega) (by omega)
  have hm : n % 2 ^ k < 2 ^ 64 := Nat.lt_of_le_of_lt (Nat.mod_le _ _) hn
  show (BitVec.ofNat 64 n &&& BitVec.ofNat 64 (2 ^ k - 1)).toNat = (BitVec.ofNat 64 (n % 2 ^ k)).toNat
  rw [BitVec.toNat_and, BitVec.toNat_ofNat, BitVec.toNat_ofNat, BitVec.toNat_ofNat, Nat.mod_eq_of_lt hn, Nat.mod_eq_of_lt (by omega : 2 ^ k - 1 < 2 ^ 64), Nat.mod_eq_of_lt hm, Nat.and_two_pow_sub_one_eq_mod]
def am_land : AD := fun _ J _ pc L S h => match S with
  | .inr (.inl b) :: .inr (.inl a) :: S => (0 ≤ a ∧ a < 9223372036854775808 ∧ (b = 16777215 ∨ b = 1073741823)) ∧ J (pc + 1) L (.inr (.inl (a % (b + 1))) :: S) h
  | _ => False
def am_lshr : AD := fun _ J _ pc L S h => match S with
  | .inl b :: .inr (.inl a) :: S => (0 ≤ a ∧ a < 9223372036854775808 ∧ b = 30) ∧ J (pc + 1) L (.inr (.inl (a / 1073741824)) :: S) h
  | _ => False
def am_lushr : AD := fun _ J _ pc L S h => match S with
  | .inl b :: .inr (.inl a) :: S => (0 ≤ a ∧ a < 9223372036854775808 ∧ b = 24) ∧ J (pc + 1) L (.inr (.inl (a / 16777216)) :: S) h
  | _ => False
theorem nu_shr {a : Int} (h1 : 0 ≤ a) (h2 : a < 9223372036854775808) : Int64.ofInt a >>> ((Int32.ofInt 30).toInt64 &&& 63) = Int64.ofInt (a / 1073741824) := by
  have e : ((Int32.ofInt 30).toInt64 &&& 63) = (30 : Int64) := by decide
  rw [e]
  apply Int64.toInt.inj
  have hb : (0 : Int) ≤ a / 1073741824 := Int.ediv_nonneg h1 (by omega)
  have hb2 : a / 1073741824 ≤ a := Int.ediv_le_self _ h1
  rw [nu_l (by omega) (by omega)]
  show (Int64.ofInt a >>> (30 : Int64)).toBitVec.toInt = _
  have : (Int64.ofInt a >>> (30 : Int64)).toBitVec = (Int64.ofInt a).toBitVec.sshiftRight 30 := by rfl
  rw [this, BitVec.toInt_sshiftRight]
  show (Int64.ofInt a).toInt >>> 30 = _
  rw [nu_l (by omega) h2, Int.shiftRight_eq_div_pow]
  rfl
theorem nu_ushr {a : Int} (h1 : 0 ≤ a) (h2 : a < 9223372036854775808) : ((Int64.ofInt a).toUInt64 >>> ((Int32.ofInt 24).toInt64.toUInt64 &&& Int64.toUInt64 63)).toInt64 = Int64.ofInt (a / 16777216) := by
  have e : ((Int32.ofInt 24).toInt64.toUInt64 &&& Int64.toUInt64 63) = (24 : UInt64) := by decide
  rw [e]
  obtain ⟨n, rfl⟩ : ∃ n : Nat, a = n := ⟨a.toNat, by omega⟩
  have hn : n < 2 ^ 64 := by omega
  have hd : n / 16777216 < 2 ^ 64 := Nat.lt_of_le_of_lt (Nat.div_le_self _ _) hn
  apply Int64.toBitVec.inj
  apply BitVec.eq_of_toNat_eq
  have e2 : ((n : Int) / 16777216) = ((n / 16777216 : Nat) : Int) := by omega
  rw [e2]
  show ((BitVec.ofNat 64 n) >>> 24).toNat = (BitVec.ofNat 64 (n / 16777216)).toNat
  rw [BitVec.toNat_ushiftRight, BitVec.toNat_ofNat, BitVec.toNat_ofNat, Nat.mod_eq_of_lt hn, Nat.mod_eq_of_lt hd, Nat.shiftRight_eq_div_pow]
section HD
variable {Y : List AL} {cl : List vw_C} {E : AE} {A : Nat → Prop} {p : Program} {l : Launch} {e : Env} {R : Room} {s : State} {m : MethodId} {args : Array Value} {below : List Frame} {meth : Method} {c : Code} {nL : Nat} {Q : State → Prop} {cc : ByteArray} {own : String} {Ts : List Cond} {G : AG} {Rt : AR} {pc : Nat} {cs : Nat × Nat}
theorem am_land_ok (X : am_C Y cl E A p s m args meth c nL cc own Ts) (hd : decode cc pc = .ok (.land, 1)) : am_sd G (am_Jc Y cl E A p l e R s m args below meth c nL Q cs) Rt am_land pc := by
  intro L S h hk H locs ls hP hD hS hl
  unfold am_land at hk
  split at hk
  · obtain ⟨⟨h1, h2, h3⟩, hk⟩ := hk
    refine lv_land X.1 X.2.1 hd ?_
    rcases h3 with rfl | rfl
    · rw [show (16777215 : Int) = ((2 ^ 24 - 1 : Nat) : Int) from rfl, nu_and h1 h2 (by omega)]
      exact hk H locs ls hP hD hS hl
    · rw [show (1073741823 : Int) = ((2 ^ 30 - 1 : Nat) : Int) from rfl, nu_and h1 h2 (by omega)]
      exact hk H locs ls hP hD hS hl
  · exact hk.elim
theorem am_lshr_ok (X : am_C Y cl E A p s m args meth c nL cc own Ts) (hd : decode cc pc = .ok (.lshr, 1)) : am_sd G (am_Jc Y cl E A p l e R s m args below meth c nL Q cs) Rt am_lshr pc := by
  intro L S h hk H locs ls hP hD hS hl
  unfold am_lshr at hk
  split at hk
  · obtain ⟨⟨h1, h2, rfl⟩, hk⟩ := hk
    exact lv_lshr X.1 X.2.1 hd (nu_shr h1 h2) (hk H locs ls hP hD hS hl)
  · exact hk.elim
theorem am_lushr_ok (X : am_C Y cl E A p s m args meth c nL cc own Ts) (hd : decode cc pc = .ok (.lushr, 1)) : am_sd G (am_Jc Y cl E A p l e R s m args below meth c nL Q cs) Rt am_lushr pc := by
  intro L S h hk H locs ls hP hD hS hl
  unfold am_lushr at hk
  split at hk
  · obtain ⟨⟨h1, h2, rfl⟩, hk⟩ := hk
    exact lv_lushr X.1 X.2.1 hd (nu_ushr h1 h2) (hk H locs ls hP hD hS hl)
  · exact hk.elim
end HD
