/-! the reference: which side is best -/
def tc (w : Nat → Int) (v : Int) : Nat → Int
  | 0 => 0
  | k + 1 => (tc w v k + w k * (v % 1073741824) + (if 0 < k then w (k - 1) * (v / 1073741824) else 0)) / 1073741824
def ts (w : Nat → Int) (v : Int) (k : Nat) : Int := tc w v k + w k * (v % 1073741824) + (if 0 < k then w (k - 1) * (v / 1073741824) else 0)
def tf (w : Nat → Int) (v : Int) (k : Nat) : Int := ts w v k % 1073741824
def tsh (w : Nat → Int) : Nat → Int
  | 0 => 0
  | k + 1 => vl 1073741824 w k
theorem tf_v (w : Nat → Int) (v : Int) : ∀ k, vl 1073741824 (tf w v) k + tc w v k * 1073741824 ^ k = (v % 1073741824) * vl 1073741824 w k + (v / 1073741824) * (1073741824 * tsh w k) := by
  intro k
  induction k with
  | zero => show (0 : Int) + 0 * 1073741824 ^ 0 = (v % 1073741824) * 0 + (v / 1073741824) * (1073741824 * 0); simp
  | succ k ih =>
    have e : vl 1073741824 (tf w v) (k + 1) = vl 1073741824 (tf w v) k + tf w v k * 1073741824 ^ k := rfl
    have e1 : vl 1073741824 w (k + 1) = vl 1073741824 w k + w k * 1073741824 ^ k := rfl
    have e2 : tc w v (k + 1) = ts w v k / 1073741824 := rfl
    have e3 : 1073741824 * (ts w v k / 1073741824) + ts w v k % 1073741824 = ts w v k := Int.mul_ediv_add_emod _ _
    have e4 : (1073741824 : Int) ^ (k + 1) = 1073741824 * 1073741824 ^ k := by rw [Int.pow_succ, Int.mul_comm]
    have e5 : tf w v k = ts w v k % 1073741824 := rfl
    have e6 : 1073741824 * vl 1073741824 w k = 1073741824 * tsh w k + (if 0 < k then w (k - 1) else 0) * 1073741824 ^ k := by
      cases k with
      | zero => show (1073741824 : Int) * 0 = 1073741824 * 0 + 0 * 1073741824 ^ 0; simp
      | succ j =>
        have q1 : vl 1073741824 w (j + 1) = vl 1073741824 w j + w j * 1073741824 ^ j := rfl
        have q2 : tsh w (j + 1) = vl 1073741824 w j := rfl
        have q3 : (1073741824 : Int) ^ (j + 1) = 1073741824 * 1073741824 ^ j := by rw [Int.pow_succ, Int.mul_comm]
        rw [q1, q2, q3, if_pos (by omega)]
        show (1073741824 : Int) * (vl 1073741824 w j + w j * 1073741824 ^ j) = 1073741824 * vl 1073741824 w j + w j * (1073741824 * 1073741824 ^ j)
        generalize (1073741824 : Int) ^ j = p
        grind
    have e7 : tsh w (k + 1) = vl 1073741824 w k := rfl
    have e8 : ts w v k = tc w v k + w k * (v % 1073741824) + (if 0 < k then w (k - 1) else 0) * (v / 1073741824) := by
      unfold ts
      by_cases hk : 0 < k
      · rw [if_pos hk, if_pos hk]
      · rw [if_neg hk, if_neg hk]; simp
    rw [e, e1, e2, e4, e5, e7, e6]
    generalize ts w v k / 1073741824 = q at *
    generalize ts w v k % 1073741824 = r at *
    generalize (1073741824 : Int) ^ k = p at *
    generalize vl 1073741824 (tf w v) k = V at *
    generalize vl 1073741824 w k = U at *
    generalize tc w v k = c at *
    generalize tsh w k = T at *
    generalize (if 0 < k then w (k - 1) else 0) = W at *
    generalize v % 1073741824 = v0 at *
    generalize v / 1073741824 = v1 at *
    have e9 : r = c + w k * v0 + W * v1 - 1073741824 * q := by omega
    rw [e9]
    grind
theorem tc_b {w : Nat → Int} {v : Int} (v1 : 0 ≤ v) (v2 : v < 274877906944) : ∀ k, (∀ j, j < k → 0 ≤ w j ∧ w j < 1073741824) → 0 ≤ tc w v k ∧ tc w v k ≤ 2147483648 := by
  intro k
  induction k with
  | zero => intro _; exact ⟨Int.le_refl _, show (0 : Int) ≤ 2147483648 by decide⟩
  | succ k ih =>
    intro h
    have i := ih (fun j hj => h j (by omega))
    have hk := h k (by omega)
    have p0 := pm hk.1 (show w k ≤ 1073741824 by omega) (show 0 ≤ v % 1073741824 by omega) (show v % 1073741824 ≤ 1073741824 by omega)
    have e : tc w v (k + 1) = (tc w v k + w k * (v % 1073741824) + (if 0 < k then w (k - 1) * (v / 1073741824) else 0)) / 1073741824 := rfl
    have p1 : 0 ≤ (if 0 < k then w (k - 1) * (v / 1073741824) else 0) ∧ (if 0 < k then w (k - 1) * (v / 1073741824) else 0) ≤ 1073741824 * 256 := by
      split
      · have hk1 := h (k - 1) (by omega)
        exact pm hk1.1 (by omega) (show 0 ≤ v / 1073741824 by omega) (by omega)
      · omega
    rw [e]
    generalize (if 0 < k then w (k - 1) * (v / 1073741824) else 0) = t at *
    omega
theorem ts_b {w : Nat → Int} {v : Int} (v1 : 0 ≤ v) (v2 : v < 274877906944) {k : Nat} (h : ∀ j, j < k + 1 → 0 ≤ w j ∧ w j < 1073741824) : 0 ≤ tc w v k ∧ tc w v k ≤ 2147483648 ∧ 0 ≤ w k * (v % 1073741824) ∧ w k * (v % 1073741824) ≤ 1152921504606846976 ∧ (0 < k → 0 ≤ w (k - 1) * (v / 1073741824) ∧ w (k - 1) * (v / 1073741824) ≤ 274877906944) := by
  have i := tc_b v1 v2 k (fun j hj => h j (by omega))
  have hk := h k (by omega)
  have p0 := pm hk.1 (show w k ≤ 1073741824 by omega) (show 0 ≤ v % 1073741824 by omega) (show v % 1073741824 ≤ 1073741824 by omega)
  refine ⟨i.1, i.2, p0.1, by omega, fun hk0 => ?_⟩
  have hk1 := h (k - 1) (by omega)
  have := pm hk1.1 (show w (k - 1) ≤ 1073741824 by omega) (show 0 ≤ v / 1073741824 by omega) (show v / 1073741824 ≤ 256 by omega)
  omega
theorem tf_b (w : Nat → Int) (v : Int) (k : Nat) : 0 ≤ tf w v k ∧ tf w v k < 1073741824 := ⟨Int.emod_nonneg _ (by decide), Int.emod_lt_of_pos _ (by decide)⟩
theorem tf_ok {w : Nat → Int} {v : Int} (v1 : 0 ≤ v) (v2 : v < 274877906944) (hw : ∀ j, j < 6 → 0 ≤ w j ∧ w j < 1073741824) (hs : vl 1073741824 w 6 < 1073741824 ^ 5) (hp : vl 1073741824 w 6 * v < 1073741824 ^ 6) : vl 1073741824 (tf w v) 6 = vl 1073741824 w 6 * v := by
  have h6 := tf_v w v 6
  have a := vl_b (B := 1073741824) (by decide) (f := tf w v) 6 (fun j _ => tf_b w v j)
  have c := tc_b v1 v2 6 hw
  have b5 := vl_b (B := 1073741824) (by decide) (f := w) 5 (fun j hj => hw j (by omega))
  have w5 := hw 5 (by omega)
  have e6 : vl 1073741824 w 6 = vl 1073741824 w 5 + w 5 * 1073741824 ^ 5 := rfl
  have e5 : tsh w 6 = vl 1073741824 w 5 := rfl
  have z5 : w 5 = 0 := by
    have hp5 : (0 : Int) < 1073741824 ^ 5 := by decide
    rcases (show w 5 = 0 ∨ 1 ≤ w 5 by omega) with g | g
    · exact g
    · exfalso
      have p2 := Int.mul_nonneg (show 0 ≤ w 5 - 1 by omega) (show (0 : Int) ≤ 1073741824 ^ 5 by decide)
      have e3 : (w 5 - 1) * (1073741824 : Int) ^ 5 = w 5 * 1073741824 ^ 5 - 1073741824 ^ 5 := by rw [Int.sub_mul, Int.one_mul]
      omega
  have e56 : vl 1073741824 w 6 = vl 1073741824 w 5 := by rw [e6, z5, Int.zero_mul]; omega
  have hv : v = 1073741824 * (v / 1073741824) + v % 1073741824 := (Int.mul_ediv_add_emod v 1073741824).symm
  have et : (v % 1073741824) * vl 1073741824 w 6 + (v / 1073741824) * (1073741824 * tsh w 6) = vl 1073741824 w 6 * v := by
    rw [e5, ← e56]
    generalize vl 1073741824 w 6 = U
    generalize v / 1073741824 = q at *
    generalize v % 1073741824 = r at *
    rw [hv]
    grind
  rw [et] at h6
  rcases (show tc w v 6 = 0 ∨ 1 ≤ tc w v 6 by omega) with g | g
  · rw [g, Int.zero_mul] at h6; omega
  · exfalso
    have p2 := Int.mul_nonneg (show 0 ≤ tc w v 6 - 1 by omega) (show (0 : Int) ≤ 1073741824 ^ 6 by decide)
    have e3 : (tc w v 6 - 1) * (1073741824 : Int) ^ 6 = tc w v 6 * 1073741824 ^ 6 - 1073741824 ^ 6 := by rw [Int.sub_mul, Int.one_mul]
    omega
/-- six limbs in the heap -/
def mw (h : AH) (b : Nat) (v : Int) : Prop := (∀ j, j < 6 → 0 ≤ h 31 (b + j) ∧ h 31 (b + j) < 1073741824) ∧ vl 1073741824 (fun j => h 31 (b + j)) 6 = v
set_option maxRecDepth 20000 in
set_option maxHeartbeats 2000000 in
theorem s_Mo_times {E : AE} {l : Launch} {h : AH} {b : Nat} (hb : b = 0 ∨ b = 6) {v u : Int} (v1 : 0 ≤ v) (v2 : v < 274877906944) (K : mw h b u) (hs : u < 1427247692705959881058285969449495136382746624) (hp : u * v < 1427247692705959881058285969449495136382746624) {Q : AR} (hQ : ∀ h' : AH, (∀ c, c ≠ 31 → c ≠ 32 → h' c = h c) → (∀ j, j < b ∨ b + 6 ≤ j → h' 31 j = h 31 j) → mw h' b (u * v) → Q none h') : am_g E l 120 [.inr (.inr 24), .inl (b : Int), .inr (.inl v)] h Q := by
  obtain ⟨K1, K2⟩ := K
  refine am_met T_Mo_times (by decide) (Nat.le_of_ble_eq_true rfl) (fun J hJ => ?_)
  have hw : ∀ j, j < 6 → 0 ≤ (fun j => h 31 (b + j)) j ∧ (fun j => h 31 (b + j)) j < 1073741824 := K1
  generalize hW : (fun j => h 31 (b + j)) = W at hw K2
  have eW : ∀ j, h 31 (b + j) = W j := fun j => by rw [← hW]
  have second : ∀ d k : Nat, ∀ (g : AH) (x y z : Option AV), k + d = 6 → (∀ c, c ≠ 31 → c ≠ 32 → g c = h c) → (∀ j, j < 6 → g 32 j = W j) → (∀ j, j < b ∨ b + 6 ≤ j → g 31 j = h 31 j) → (∀ j, j < k → g 31 (b + j) = tf W v j) → J 48 [some (.inr (.inr 24)), some (.inl (b : Int)), some (.inr (.inl v)), none, some (.inr (.inl (tc W v k))), none, some (.inl (k : Int)), x, y] [] g := by
    intro d
    induction d with
    | zero =>
      intro k g x y z hk fr fw fo_ fp
      have : k = 6 := by omega
      subst this
      repeat (first | refine hJ _ _ _ _ ?_ | refine And.intro (by omega) (fun _ => ?_) | refine And.intro (by omega) ?_ | refine And.intro (fun _ => ?_) (by omega))
      refine hQ g fr fo_ ⟨fun j hj => ?_, ?_⟩
      · rw [fp j hj]; exact tf_b W v j
      · rw [vl_congr (g := tf W v) 6 (fun j hj => fp j hj), tf_ok v1 v2 hw (by rw [K2]; omega) (by rw [K2]; omega), K2]
    | succ d ih =>
      intro k g x y z hk fr fw fo_ fp
      have bb := ts_b v1 v2 (k := k) (fun j hj => hw j (by omega))
      have ek : g 32 (Int.toNat (k : Int)) = W k := fw k (by omega)
      have eb : ((b : Int) + (k : Int)).toNat = b + k := by omega
      have step : ∀ (t : Int) (x y : Option AV), t = ts W v k → J 48 [some (.inr (.inr 24)), some (.inl (b : Int)), some (.inr (.inl v)), none, some (.inr (.inl (t / 1073741824))), none, some (.inl ((k : Int) + 1)), x, y] [] (am_up g 31 ((b : Int) + (k : Int)).toNat (t % 1073741824)) := by
        intro t x y ht
        rw [eb, ht]
        refine ih (k + 1) _ x y none (by omega) (fun c c1 c2 => ?_) (fun j hj => ?_) (fun j hj => ?_) (fun j hj => ?_)
        · rw [am_up_o c1]; exact fr c c1 c2
        · rw [am_up_o (by decide)]; exact fw j hj
        · have e : am_up g 31 (b + k) (ts W v k % 1073741824) 31 j = g 31 j := by
            have hne : ¬ j = b + k := by omega
            simp [am_up, hne]
          rw [e]; exact fo_ j hj
        · by_cases hjk : j = k
          · subst hjk
            simp [am_up]
            rfl
          · have hne : ¬ b + j = b + k := by omega
            have e : am_up g 31 (b + k) (ts W v k % 1073741824) 31 (b + j) = g 31 (b + j) := by
              have hne2 : ¬ j = k := hjk
              simp [am_up, hne2]
            rw [e]; exact fp j (by omega)
      have bb3 : 0 ≤ W k * (v % (1073741823 + 1)) ∧ W k * (v % (1073741823 + 1)) ≤ 1152921504606846976 := ⟨bb.2.2.1, bb.2.2.2.1⟩
      by_cases h0 : 0 < k
      · have bb2 := bb.2.2.2.2 h0
        have ek1 : g 32 ((k : Int) - 1).toNat = W (k - 1) := by
          rw [show ((k : Int) - 1).toNat = k - 1 by omega]; exact fw (k - 1) (by omega)
        have et : tc W v k + W k * (v % (1073741823 + 1)) + W (k - 1) * (v / 1073741824) = ts W v k := by
          unfold ts
          rw [if_pos h0]
          rfl
        have e9 : v % (1073741823 + 1) = v % 1073741824 := rfl
        repeat (first | refine hJ _ _ _ _ ?_ | refine And.intro (by omega) (fun _ => ?_) | refine And.intro (by omega) ?_ | refine And.intro (fun _ => ?_) (by omega))
        rw [ek]
        repeat (first | refine hJ _ _ _ _ ?_ | refine And.intro (by omega) (fun _ => ?_) | refine And.intro (by omega) ?_ | refine And.intro (fun _ => ?_) (by omega))
        rw [ek1]
        repeat (first | exact step _ _ _ et | refine hJ _ _ _ _ ?_ | refine And.intro (by omega) (fun _ => ?_) | refine And.intro (by omega) ?_ | refine And.intro (fun _ => ?_) (by omega))
      · have et : tc W v k + W k * (v % (1073741823 + 1)) = ts W v k := by
          unfold ts
          rw [if_neg h0]
          show _ = tc W v k + W k * (v % 1073741824) + 0
          rw [Int.add_zero]
          rfl
        have e9 : v % (1073741823 + 1) = v % 1073741824 := rfl
        repeat (first | refine hJ _ _ _ _ ?_ | refine And.intro (by omega) (fun _ => ?_) | refine And.intro (by omega) ?_ | refine And.intro (fun _ => ?_) (by omega))
        rw [ek]
        repeat (first | exact step _ _ _ et | refine hJ _ _ _ _ ?_ | refine And.intro (by omega) (fun _ => ?_) | refine And.intro (by omega) ?_ | refine And.intro (fun _ => ?_) (by omega))
  have first : ∀ d k : Nat, ∀ (g : AH) (x y z u : Option AV), k + d = 6 → (∀ c, c ≠ 31 → c ≠ 32 → g c = h c) → (∀ j, j < k → g 32 j = W j) → (∀ j, j < b ∨ b + k ≤ j → g 31 j = h 31 j) → J 3 [some (.inr (.inr 24)), some (.inl (b : Int)), some (.inr (.inl v)), none, some (.inl (k : Int)), x, y, z, u] [] g := by
    intro d
    induction d with
    | zero =>
      intro k g x y z u hk fr fw fo_
      have : k = 6 := by omega
      subst this
      repeat (first | exact second 6 0 g _ _ none (by omega) fr fw fo_ (fun j hj => absurd hj (Nat.not_lt_zero _)) | refine hJ _ _ _ _ ?_ | refine And.intro (by omega) (fun _ => ?_) | refine And.intro (by omega) ?_ | refine And.intro (fun _ => ?_) (by omega))
    | succ d ih =>
      intro k g x y z u hk fr fw fo_
      have eb : ((b : Int) + (k : Int)).toNat = b + k := by omega
      repeat (first | refine ih (k + 1) _ _ _ _ _ (by omega) ?_ ?_ ?_ | refine hJ _ _ _ _ ?_ | refine And.intro (by omega) (fun _ => ?_) | refine And.intro (by omega) ?_ | refine And.intro (fun _ => ?_) (by omega))
      · intro c c1 c2
        rw [am_up_o c1, am_up_o c2]
        exact fr c c1 c2
      · intro j hj
        rw [am_up_o (by decide), eb]
        by_cases hjk : j = k
        · subst hjk
          have : g 31 (b + j) = W j := by rw [fo_ (b + j) (by omega)]; exact eW j
          simp [am_up, this]
        · have e : am_up g 32 (Int.toNat (k : Int)) (g 31 (b + k)) 32 j = g 32 j := by
            simp [am_up, hjk]
          rw [e]; exact fw j (by omega)
      · intro j hj
        rw [eb]
        have hne : ¬ j = b + k := by omega
        have e : am_up (am_up g 32 (Int.toNat (k : Int)) (g 31 (b + k))) 31 (b + k) 0 31 j = g 31 j := by
          simp [am_up, hne]
        rw [e]; exact fo_ j (by omega)
  repeat (first | exact first 6 0 h _ _ _ _ (by omega) (fun _ _ _ => rfl) (fun j hj => absurd hj (Nat.not_lt_zero _)) (fun _ _ => rfl) | refine hJ _ _ _ _ ?_ | refine And.intro (by omega) (fun _ => ?_) | refine And.intro (by omega) ?_ | refine And.intro (fun _ => ?_) (by omega))
set_option maxRecDepth 20000 in
set_option maxHeartbeats 2000000 in
theorem s_Mo_product {E : AE} {l : Launch} {h : AH} {b : Nat} (hb : b = 0 ∨ b = 6) {x y z : Int} (x1 : 0 ≤ x) (x2 : x ≤ 200000000000) (y1 : 0 ≤ y) (y2 : y ≤ 200000000000) (z1 : 0 ≤ z) (z2 : z ≤ 200000000000) {Q : AR} (hQ : ∀ h' : AH, (∀ c, c ≠ 31 → c ≠ 32 → h' c = h c) → (∀ j, j < b ∨ b + 6 ≤ j → h' 31 j = h 31 j) → mw h' b (x * y * z) → Q none h') : am_g E l 121 [.inr (.inr 24), .inl (b : Int), .inr (.inl x), .inr (.inl y), .inr (.inl z)] h Q := by
  have pxy := pm x1 x2 y1 y2
  have pxyz := pm pxy.1 pxy.2 z1 z2
  refine am_met T_Mo_product (by decide) (Nat.le_of_ble_eq_true rfl) (fun J hJ => ?_)
  have loop : ∀ d k : Nat, ∀ g : AH, k + d = 6 → (∀ c, c ≠ 31 → g c = h c) → (∀ j, j < b ∨ b + k ≤ j → g 31 j = h 31 j) → (∀ j, j < k → g 31 (b + j) = if j = 0 then 1 else 0) → J 3 [some (.inr (.inr 24)), some (.inl (b : Int)), some (.inr (.inl x)), none, some (.inr (.inl y)), none, some (.inr (.inl z)), none, some (.inl (k : Int))] [] g := by
    intro d
    induction d with
    | zero =>
      intro k g hk fr f31 fj
      have : k = 6 := by omega
      subst this
      have W : mw g b 1 := by
        refine ⟨fun j hj => ?_, ?_⟩
        · rw [fj j hj]; split <;> omega
        · rw [vl_congr (g := fun j => if j = 0 then 1 else 0) 6 (fun j hj => fj j hj)]
          decide +kernel
      repeat (first | refine hJ _ _ _ _ ?_ | refine And.intro (by omega) (fun _ => ?_) | refine And.intro (by omega) ?_ | refine And.intro (fun _ => ?_) (by omega))
      refine s_Mo_times hb x1 (by omega) W (by omega) (by omega) (fun g1 o1 p1 W1 => ?_)
      repeat (first | refine hJ _ _ _ _ ?_ | refine And.intro (by omega) (fun _ => ?_) | refine And.intro (by omega) ?_ | refine And.intro (fun _ => ?_) (by omega))
      rw [Int.one_mul] at W1
      refine s_Mo_times hb y1 (by omega) W1 (by omega) (by omega) (fun g2 o2 p2 W2 => ?_)
      repeat (first | refine hJ _ _ _ _ ?_ | refine And.intro (by omega) (fun _ => ?_) | refine And.intro (by omega) ?_ | refine And.intro (fun _ => ?_) (by omega))
      refine s_Mo_times hb z1 (by omega) W2 (by omega) (by omega) (fun g3 o3 p3 W3 => ?_)
      repeat (first | refine hJ _ _ _ _ ?_ | refine And.intro (by omega) (fun _ => ?_) | refine And.intro (by omega) ?_ | refine And.intro (fun _ => ?_) (by omega))
      exact hQ g3 (fun c c1 c2 => by rw [o3 c c1 c2, o2 c c1 c2, o1 c c1 c2, fr c c1]) (fun j hj => by rw [p3 j hj, p2 j hj, p1 j hj]; exact f31 j hj) W3
    | succ d ih =>
      intro k g hk fr f31 fj
      have eb : ((b : Int) + (k : Int)).toNat = b + k := by omega
      have step : ∀ v : Int, (v = if k = 0 then 1 else 0) → J 3 [some (.inr (.inr 24)), some (.inl (b : Int)), some (.inr (.inl x)), none, some (.inr (.inl y)), none, some (.inr (.inl z)), none, some (.inl ((k : Int) + 1))] [] (am_up g 31 ((b : Int) + (k : Int)).toNat v) := by
        intro v hv
        rw [eb]
        refine ih (k + 1) _ (by omega) (fun c c1 => ?_) (fun j hj => ?_) (fun j hj => ?_)
        · rw [am_up_o c1]; exact fr c c1
        · have hne : ¬ j = b + k := by omega
          have e : am_up g 31 (b + k) v 31 j = g 31 j := by simp [am_up, hne]
          rw [e]; exact f31 j (by omega)
        · by_cases hjk : j = k
          · subst hjk
            have e : am_up g 31 (b + j) v 31 (b + j) = v := by simp [am_up]
            rw [e]; exact hv
          · have e : am_up g 31 (b + k) v 31 (b + j) = g 31 (b + j) := by simp [am_up, hjk]
            rw [e]; exact fj j (by omega)
      by_cases h0 : k = 0
      · repeat (first | exact step 1 (by rw [if_pos h0]) | refine hJ _ _ _ _ ?_ | refine And.intro (by omega) (fun _ => ?_) | refine And.intro (by omega) ?_ | refine And.intro (fun _ => ?_) (by omega))
      · repeat (first | exact step 0 (by rw [if_neg h0]) | refine hJ _ _ _ _ ?_ | refine And.intro (by omega) (fun _ => ?_) | refine And.intro (by omega) ?_ | refine And.intro (fun _ => ?_) (by omega))
  repeat (first | exact loop 6 0 h (by omega) (fun _ _ => rfl) (fun _ _ => rfl) (fun j hj => absurd hj (Nat.not_lt_zero _)) | refine hJ _ _ _ _ ?_ | refine And.intro (by omega) (fun _ => ?_) | refine And.intro (by omega) ?_ | refine And.intro (fun _ => ?_) (by omega))
set_option maxRecDepth 20000 in
set_option maxHeartbeats 2000000 in
theorem s_Mo_isLess {E : AE} {l : Launch} {h : AH} {v w : Int} (K : mw h 0 v) (L : mw h 6 w) {Q : AR} (h1 : v < w → Q (some (.inl 1)) h) (h0 : ¬ v < w → Q (some (.inl 0)) h) : am_g E l 122 [.inr (.inr 24)] h Q := by
  obtain ⟨K1, K2⟩ := K
  obtain ⟨L1, L2⟩ := L
  refine am_met T_Mo_isLess (by decide) (Nat.le_of_ble_eq_true rfl) (fun J hJ => ?_)
  have last : ∀ c : Nat, c < 6 → (∀ j, c < j → j < 6 → h 31 (0 + j) = h 31 (6 + j)) → (c = 0 ∨ h 31 (0 + c) ≠ h 31 (6 + c)) → J 31 [some (.inr (.inr 24)), some (.inl (c : Int))] [] h := by
    intro c hc heq hne
    have ea : h 31 (Int.toNat (c : Int)) = h 31 (0 + c) := by rw [Nat.zero_add]; rfl
    have eb : h 31 (Int.toNat (6 + (c : Int))) = h 31 (6 + c) := by rw [show Int.toNat (6 + (c : Int)) = 6 + c by omega]
    have a := K1 c hc
    have b := L1 c hc
    repeat (first | refine hJ _ _ _ _ ?_ | refine And.intro (by omega) (fun _ => ?_) | refine And.intro (by omega) ?_ | refine And.intro (fun _ => ?_) (by omega))
    refine And.intro (fun hd => ?_) (fun hd => ?_)
    · repeat (first | refine hJ _ _ _ _ ?_ | refine And.intro (by omega) (fun _ => ?_) | refine And.intro (by omega) ?_ | refine And.intro (fun _ => ?_) (by omega))
      rw [ea, eb] at hd
      apply h0
      rcases (show h 31 (6 + c) < h 31 (0 + c) ∨ h 31 (0 + c) = h 31 (6 + c) by omega) with g | g
      · have := vl_lt (B := 1073741824) (by decide) (f := fun j => h 31 (6 + j)) (g := fun j => h 31 (0 + j)) (k := c) (fun j hj => L1 j (by omega)) (fun j hj => K1 j (by omega)) g (6 - (c + 1)) (fun j j1 j2 => (heq j (by omega) (by omega)).symm)
        rw [show c + 1 + (6 - (c + 1)) = 6 by omega, K2, L2] at this
        omega
      · have e : v = w := by
          rw [← K2, ← L2]
          refine vl_congr 6 (fun j hj => ?_)
          rcases hne with q | q
          · rcases (show j = c ∨ c < j by omega) with r | r
            · subst r; exact g
            · exact heq j r hj
          · exact absurd g q
        omega
    · repeat (first | refine hJ _ _ _ _ ?_ | refine And.intro (by omega) (fun _ => ?_) | refine And.intro (by omega) ?_ | refine And.intro (fun _ => ?_) (by omega))
      rw [ea, eb] at hd
      apply h1
      have := vl_lt (B := 1073741824) (by decide) (f := fun j => h 31 (0 + j)) (g := fun j => h 31 (6 + j)) (k := c) (fun j hj => K1 j (by omega)) (fun j hj => L1 j (by omega)) hd (6 - (c + 1)) (fun j j1 j2 => heq j (by omega) (by omega))
      rw [show c + 1 + (6 - (c + 1)) = 6 by omega, K2, L2] at this
      exact this
  have loop : ∀ c : Nat, c < 6 → ∀ p : Int, p = (c : Int) → (∀ j, c < j → j < 6 → h 31 (0 + j) = h 31 (6 + j)) → J 2 [some (.inr (.inr 24)), some (.inl p)] [] h := by
    intro c
    induction c with
    | zero =>
      intro hc p hp heq
      subst hp
      repeat (first | exact last 0 hc heq (.inl rfl) | refine hJ _ _ _ _ ?_ | refine And.intro (by omega) (fun _ => ?_) | refine And.intro (by omega) ?_ | refine And.intro (fun _ => ?_) (by omega))
    | succ c ih =>
      intro hc p hp heq
      subst hp
      have ea : h 31 (Int.toNat ((c + 1 : Nat) : Int)) = h 31 (0 + (c + 1)) := by rw [Nat.zero_add]; rfl
      have eb : h 31 (Int.toNat (6 + ((c + 1 : Nat) : Int))) = h 31 (6 + (c + 1)) := by rw [show Int.toNat (6 + ((c + 1 : Nat) : Int)) = 6 + (c + 1) by omega]
      have a := K1 (c + 1) hc
      have b := L1 (c + 1) hc
      repeat (first | refine hJ _ _ _ _ ?_ | refine And.intro (by omega) (fun _ => ?_) | refine And.intro (by omega) ?_ | refine And.intro (fun _ => ?_) (by omega))
      refine And.intro (fun hd => ?_) (fun hd => ?_)
      · rw [ea, eb] at hd
        repeat (first | exact last (c + 1) hc heq (.inr hd) | refine hJ _ _ _ _ ?_ | refine And.intro (by omega) (fun _ => ?_) | refine And.intro (by omega) ?_ | refine And.intro (fun _ => ?_) (by omega))
      · rw [ea, eb] at hd
        have heq' : ∀ j, c < j → j < 6 → h 31 (0 + j) = h 31 (6 + j) := fun j j1 j2 => by
          rcases (show j = c + 1 ∨ c + 1 < j by omega) with q | q
          · subst q; exact hd
          · exact heq j q j2
        repeat (first | exact ih (by omega) _ (by omega) heq' | refine hJ _ _ _ _ ?_ | refine And.intro (by omega) (fun _ => ?_) | refine And.intro (by omega) ?_ | refine And.intro (fun _ => ?_) (by omega))
  repeat (first | exact loop 5 (by decide) _ rfl (fun j j1 j2 => by omega) | refine hJ _ _ _ _ ?_ | refine And.intro (by omega) (fun _ => ?_) | refine And.intro (by omega) ?_ | refine And.intro (fun _ => ?_) (by omega))
set_option maxRecDepth 20000 in
set_option maxHeartbeats 2000000 in
theorem m_best {E : AE} {l : Launch} {n m : Nat} {pt : Nat → ge_P} {rt : Nat → Nat} {h : AH} (R : ir n m pt rt h) {w : Int} (hw : lo_r w) : am_g E l 123 [.inr (.inr 24), .inl w] h (rq n m pt rt h 0 (some (.inl (an_best pt n w)))) := by
  have hle := hu_m_le pt (fun _ => true) n
  have p2 := R.1.2.1
  have hf := hu_nf R.1
  refine am_met T_Mo_best (by decide) (Nat.le_of_ble_eq_true rfl) (fun J hJ => ?_)
  repeat (first | refine hJ _ _ _ _ ?_ | refine And.intro (by omega) (fun _ => ?_) | refine And.intro (by omega) ?_ | refine And.intro (fun _ => ?_) (by omega))
  refine am_g_mono (ir_hull (ir_t R (t := 0))) ?_
  rintro r h1 ⟨rfl, f, f24, R1, K, V⟩
  have f24_0 : h1 24 0 = 0 := by rw [f24 0 (by decide)]; rfl
  have hC : ∀ v, rq n m pt rt h 0 v v h1 := fun v => ⟨rfl, fun c hc => by rw [f c (by omega) (by omega) (by omega), am_up_o (by omega)], f24_0, R1⟩
  have K1 := K.1
  clear V
  by_cases hy : 3 ≤ hu_m pt (fun _ => true) n ∧ (w = 0 ∨ w = 1)
  · have e : an_best pt n w = (bs (hu_p pt (fun _ => true) n) (hu_m pt (fun _ => true) n) w (hu_m pt (fun _ => true) n) : Int) := if_pos hy
    obtain ⟨h3, hw01⟩ := hy
    obtain ⟨q, hq⟩ : ∃ q, q = hu_m pt (fun _ => true) n := ⟨_, rfl⟩
    obtain ⟨cp, hcp⟩ : ∃ cp, cp = hu_p pt (fun _ => true) n := ⟨_, rfl⟩
    rw [← hq, ← hcp] at e hf K
    rw [← hq] at h3 hle K1
    have loop : ∀ d k : Nat, ∀ (g : AH) (b : Nat), k + d = q → 1 ≤ k → b = bs cp q w k → (∀ c, c ≠ 31 → c ≠ 32 → g c = h1 c) → J 32 [some (.inr (.inr 24)), some (.inl w), some (.inl (b : Int)), some (.inl (k : Int))] [] g := by
      intro d
      induction d with
      | zero =>
        intro k g b hk hk1 hb fr
        have g8 : g 24 8 = (q : Int) := by rw [fr 24 (by decide) (by decide)]; exact K1
        have ek : k = q := by omega
        rw [ek] at hb
        repeat (first | refine hJ _ _ _ _ ?_ | refine And.intro (by omega) (fun _ => ?_) | refine And.intro (by omega) ?_ | refine And.intro (fun _ => ?_) (by omega))
        rw [e, hb]
        refine ⟨rfl, fun c hc => by rw [fr c (by omega) (by omega), f c (by omega) (by omega) (by omega), am_up_o (by omega)], by rw [fr 24 (by decide) (by decide)]; exact f24_0, mp_cg R1.1 (by rw [fr 24 (by decide) (by decide)]) (fr 25 (by decide) (by decide)) (fr 26 (by decide) (by decide)), by rw [fr 24 (by decide) (by decide)]; exact R1.2.1, by rw [fr 27 (by decide) (by decide)]; exact R1.2.2⟩
      | succ d ih =>
        intro k g b hk hk1 hb fr
        have g8 : g 24 8 = (q : Int) := by rw [fr 24 (by decide) (by decide)]; exact K1
        have Pg : mp g n pt := mp_cg R1.1 (by rw [fr 24 (by decide) (by decide)]) (fr 25 (by decide) (by decide)) (fr 26 (by decide) (by decide))
        have Kg : mk_h g n q pt cp := mk_cg K (by rw [fr 24 (by decide) (by decide)]) (fr 29 (by decide) (by decide))
        have hlt := bs_lt cp q w k hk1
        rw [← hb] at hlt
        have es := bs_s cp q w hk1
        rw [← hb] at es
        have hkq : k < q := by omega
        have hbq : b < q := by omega
        have bi := bw_b (w := w) hf hkq
        have bf := bw_b (w := w) hf hbq
        have tail : ∀ (g2 : AH), (∀ c, c ≠ 31 → c ≠ 32 → g2 c = h1 c) → mw g2 0 (hs_h cp q k q * bw cp q w k * hs_l cp q b) → mw g2 6 (hs_h cp q b q * bw cp q w b * hs_l cp q k) → J 105 [some (.inr (.inr 24)), some (.inl w), some (.inl (b : Int)), some (.inl (k : Int))] [] g2 := by
          intro g2 fr2 W1 W2
          repeat (first | refine hJ _ _ _ _ ?_ | refine And.intro (by omega) (fun _ => ?_) | refine And.intro (by omega) ?_ | refine And.intro (fun _ => ?_) (by omega))
          refine s_Mo_isLess W1 W2 (fun hb => ?_) (fun hb => ?_)
          · repeat (first | exact ih (k + 1) g2 k (by omega) (by omega) (by rw [es, if_pos hb]) fr2 | refine hJ _ _ _ _ ?_ | refine And.intro (by omega) (fun _ => ?_) | refine And.intro (by omega) ?_ | refine And.intro (fun _ => ?_) (by omega))
          · repeat (first | exact ih (k + 1) g2 b (by omega) (by omega) (by rw [es, if_neg hb]) fr2 | refine hJ _ _ _ _ ?_ | refine And.intro (by omega) (fun _ => ?_) | refine And.intro (by omega) ?_ | refine And.intro (fun _ => ?_) (by omega))
        have mid : ∀ (g1 : AH), (∀ c, c ≠ 31 → c ≠ 32 → g1 c = h1 c) → mw g1 0 (hs_h cp q k q * bw cp q w k * hs_l cp q b) → J 72 [some (.inr (.inr 24)), some (.inl w), some (.inl (b : Int)), some (.inl (k : Int))] [] g1 := by
          intro g1 fr1 W1
          have P1 : mp g1 n pt := mp_cg R1.1 (by rw [fr1 24 (by decide) (by decide)]) (fr1 25 (by decide) (by decide)) (fr1 26 (by decide) (by decide))
          have Kg1 : mk_h g1 n q pt cp := mk_cg K (by rw [fr1 24 (by decide) (by decide)]) (fr1 29 (by decide) (by decide))
          repeat (first | refine hJ _ _ _ _ ?_ | refine And.intro (by omega) (fun _ => ?_) | refine And.intro (by omega) ?_ | refine And.intro (fun _ => ?_) (by omega))
          refine s_Mo_heightOf P1 Kg1 hf hbq ?_
          have fin : am_g E l 121 [.inr (.inr 24), .inl ((6 : Nat) : Int), .inr (.inl (hs_h cp q b q)), .inr (.inl (bw cp q w b)), .inr (.inl (hs_l cp q k))] g1 (fun r h' => J 105 [some (.inr (.inr 24)), some (.inl w), some (.inl (b : Int)), some (.inl (k : Int))] (am_on r []) h') := by
            refine s_Mo_product (.inr rfl) bf.1.1 bf.1.2 bf.2.1.1 bf.2.1.2 bi.2.2.1 bi.2.2.2 (fun g2 o2 p2 W2 => ?_)
            refine tail g2 (fun c c1 c2 => by rw [o2 c c1 c2, fr1 c c1 c2]) ?_ W2
            unfold mw at W1 ⊢
            have ex : ∀ j, j < 6 → g2 31 (0 + j) = g1 31 (0 + j) := fun j hj => p2 (0 + j) (by omega)
            refine ⟨fun j hj => by rw [ex j hj]; exact W1.1 j hj, ?_⟩
            rw [vl_congr 6 ex]
            exact W1.2
          rcases hw01 with rfl | rfl
          · repeat (first | refine hJ _ _ _ _ ?_ | refine And.intro (by omega) (fun _ => ?_) | refine And.intro (by omega) ?_ | refine And.intro (fun _ => ?_) (by omega))
            refine s_Mo_heightOf P1 Kg1 hf hbq ?_
            repeat (first | refine hJ _ _ _ _ ?_ | refine And.intro (by omega) (fun _ => ?_) | refine And.intro (by omega) ?_ | refine And.intro (fun _ => ?_) (by omega))
            refine s_Mo_lengthOf P1 Kg1 hkq ?_
            repeat (first | refine hJ _ _ _ _ ?_ | refine And.intro (by omega) (fun _ => ?_) | refine And.intro (by omega) ?_ | refine And.intro (fun _ => ?_) (by omega))
            exact fin
          · repeat (first | refine hJ _ _ _ _ ?_ | refine And.intro (by omega) (fun _ => ?_) | refine And.intro (by omega) ?_ | refine And.intro (fun _ => ?_) (by omega))
            refine s_Mo_spanOf P1 Kg1 hf hbq ?_
            repeat (first | refine hJ _ _ _ _ ?_ | refine And.intro (by omega) (fun _ => ?_) | refine And.intro (by omega) ?_ | refine And.intro (fun _ => ?_) (by omega))
            refine s_Mo_lengthOf P1 Kg1 hkq ?_
            repeat (first | refine hJ _ _ _ _ ?_ | refine And.intro (by omega) (fun _ => ?_) | refine And.intro (by omega) ?_ | refine And.intro (fun _ => ?_) (by omega))
            exact fin
        have fin0 : am_g E l 121 [.inr (.inr 24), .inl ((0 : Nat) : Int), .inr (.inl (hs_h cp q k q)), .inr (.inl (bw cp q w k)), .inr (.inl (hs_l cp q b))] g (fun r h' => J 72 [some (.inr (.inr 24)), some (.inl w), some (.inl (b : Int)), some (.inl (k : Int))] (am_on r []) h') := by
          refine s_Mo_product (.inl rfl) bi.1.1 bi.1.2 bi.2.1.1 bi.2.1.2 bf.2.2.1 bf.2.2.2 (fun g1 o1 p1 W1 => ?_)
          exact mid g1 (fun c c1 c2 => by rw [o1 c c1 c2, fr c c1 c2]) W1
        repeat (first | refine hJ _ _ _ _ ?_ | refine And.intro (by omega) (fun _ => ?_) | refine And.intro (by omega) ?_ | refine And.intro (fun _ => ?_) (by omega))
        refine s_Mo_heightOf Pg Kg hf hkq ?_
        rcases hw01 with rfl | rfl
        · repeat (first | refine hJ _ _ _ _ ?_ | refine And.intro (by omega) (fun _ => ?_) | refine And.intro (by omega) ?_ | refine And.intro (fun _ => ?_) (by omega))
          refine s_Mo_heightOf Pg Kg hf hkq ?_
          repeat (first | refine hJ _ _ _ _ ?_ | refine And.intro (by omega) (fun _ => ?_) | refine And.intro (by omega) ?_ | refine And.intro (fun _ => ?_) (by omega))
          refine s_Mo_lengthOf Pg Kg hbq ?_
          repeat (first | refine hJ _ _ _ _ ?_ | refine And.intro (by omega) (fun _ => ?_) | refine And.intro (by omega) ?_ | refine And.intro (fun _ => ?_) (by omega))
          exact fin0
        · repeat (first | refine hJ _ _ _ _ ?_ | refine And.intro (by omega) (fun _ => ?_) | refine And.intro (by omega) ?_ | refine And.intro (fun _ => ?_) (by omega))
          refine s_Mo_spanOf Pg Kg hf hkq ?_
          repeat (first | refine hJ _ _ _ _ ?_ | refine And.intro (by omega) (fun _ => ?_) | refine And.intro (by omega) ?_ | refine And.intro (fun _ => ?_) (by omega))
          refine s_Mo_lengthOf Pg Kg hbq ?_
          repeat (first | refine hJ _ _ _ _ ?_ | refine And.intro (by omega) (fun _ => ?_) | refine And.intro (by omega) ?_ | refine And.intro (fun _ => ?_) (by omega))
          exact fin0
    rcases hw01 with rfl | rfl
    · repeat (first | exact loop (q - 1) 1 h1 0 (by omega) (by omega) (fo_0 (Nat.le_refl _)).symm (fun _ _ _ => rfl) | refine hJ _ _ _ _ ?_ | refine And.intro (by omega) (fun _ => ?_) | refine And.intro (by omega) ?_ | refine And.intro (fun _ => ?_) (by omega))
    · repeat (first | exact loop (q - 1) 1 h1 0 (by omega) (by omega) (fo_0 (Nat.le_refl _)).symm (fun _ _ _ => rfl) | refine hJ _ _ _ _ ?_ | refine And.intro (by omega) (fun _ => ?_) | refine And.intro (by omega) ?_ | refine And.intro (fun _ => ?_) (by omega))
  · have e : an_best pt n w = -1 := if_neg hy
    by_cases g3 : 3 ≤ hu_m pt (fun _ => true) n
    · have : ¬ (w = 0 ∨ w = 1) := fun g => hy ⟨g3, g⟩
      by_cases g4 : w < 0
      · repeat (first | refine hJ _ _ _ _ ?_ | refine And.intro (by omega) (fun _ => ?_) | refine And.intro (by omega) ?_ | refine And.intro (fun _ => ?_) (by omega))
        rw [e]
        exact hC _
      · repeat (first | refine hJ _ _ _ _ ?_ | refine And.intro (by omega) (fun _ => ?_) | refine And.intro (by omega) ?_ | refine And.intro (fun _ => ?_) (by omega))
        rw [e]
        exact hC _
    · repeat (first | refine hJ _ _ _ _ ?_ | refine And.intro (by omega) (fun _ => ?_) | refine And.intro (by omega) ?_ | refine And.intro (fun _ => ?_) (by omega))
      rw [e]
      exact hC _
theorem o_best {E : AE} {l : Launch} {s : State} {k : Nat} {h : AH} (hk : k ≤ 600) (I : iv k h) : op_best E l s (iv (k + 1)) h := by
  obtain ⟨n, m, pt, rt, rg, C, R⟩ := I
  intro x hx
  have hle := hu_m_le pt (fun _ => true) n
  have p2 := R.1.2.1
  have b : -2147483648 ≤ an_best pt n x ∧ an_best pt n x < 2147483648 := by
    unfold an_best
    split
    · rename_i g
      have := bs_lt (hu_p pt (fun _ => true) n) (hu_m pt (fun _ => true) n) x (hu_m pt (fun _ => true) n) (by omega)
      omega
    · omega
  exact op_i R b.1 b.2 (c_best C hk (hu_nf R.1) hx) (fun h1 R1 => m_best R1 hx)
