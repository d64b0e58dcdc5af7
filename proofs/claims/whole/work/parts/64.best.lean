/-! numbers in limbs -/
def vl (B : Int) (f : Nat → Int) : Nat → Int
  | 0 => 0
  | k + 1 => vl B f k + f k * B ^ k
theorem vl_b {B : Int} (hB : 0 < B) {f : Nat → Int} : ∀ n, (∀ j, j < n → 0 ≤ f j ∧ f j < B) → 0 ≤ vl B f n ∧ vl B f n < B ^ n := by
  intro n
  induction n with
  | zero => intro _; exact ⟨Int.le_refl _, by rw [Int.pow_zero]; exact (show (0 : Int) < 1 by decide)⟩
  | succ n ih =>
    intro h
    have i := ih (fun j hj => h j (by omega))
    have hn := h n (by omega)
    have hp : 0 < B ^ n := Int.pow_pos hB
    have e : vl B f (n + 1) = vl B f n + f n * B ^ n := rfl
    have e2 : B ^ (n + 1) = B * B ^ n := by rw [Int.pow_succ, Int.mul_comm]
    have p1 := Int.mul_nonneg hn.1 (show 0 ≤ B ^ n by omega)
    have p2 := Int.mul_nonneg (show 0 ≤ B - f n - 1 by omega) (show 0 ≤ B ^ n by omega)
    have e3 : (B - f n - 1) * B ^ n = B * B ^ n - f n * B ^ n - B ^ n := by rw [Int.sub_mul, Int.sub_mul, Int.one_mul]
    rw [e, e2]
    omega
theorem vl_congr {B : Int} {f g : Nat → Int} : ∀ n, (∀ j, j < n → f j = g j) → vl B f n = vl B g n := by
  intro n
  induction n with
  | zero => intro _; rfl
  | succ n ih =>
    intro h
    show vl B f n + f n * B ^ n = vl B g n + g n * B ^ n
    rw [ih (fun j hj => h j (by omega)), h n (by omega)]
theorem vl_lt {B : Int} (hB : 0 < B) {f g : Nat → Int} {k : Nat} (hf : ∀ j, j < k + 1 → 0 ≤ f j ∧ f j < B) (hg : ∀ j, j < k + 1 → 0 ≤ g j ∧ g j < B) (h : f k < g k) : ∀ d, (∀ j, k < j → j < k + 1 + d → f j = g j) → vl B f (k + 1 + d) < vl B g (k + 1 + d) := by
  intro d
  induction d with
  | zero =>
    intro _
    have a := vl_b hB k (fun j hj => hf j (by omega))
    have b := vl_b hB k (fun j hj => hg j (by omega))
    have hp : 0 < B ^ k := Int.pow_pos hB
    have p2 := Int.mul_nonneg (show 0 ≤ g k - f k - 1 by omega) (show 0 ≤ B ^ k by omega)
    have e3 : (g k - f k - 1) * B ^ k = g k * B ^ k - f k * B ^ k - B ^ k := by rw [Int.sub_mul, Int.sub_mul, Int.one_mul]
    show vl B f k + f k * B ^ k < vl B g k + g k * B ^ k
    omega
  | succ d ih =>
    intro he
    have i := ih (fun j h1 h2 => he j h1 (by omega))
    have e := he (k + 1 + d) (by omega) (by omega)
    show vl B f (k + 1 + d) + f (k + 1 + d) * B ^ (k + 1 + d) < vl B g (k + 1 + d) + g (k + 1 + d) * B ^ (k + 1 + d)
    rw [e]
    omega
/-- carries: what is carried into limb k when the limbs l are multiplied by f -/
def mc (B : Int) (l : Nat → Int) (f : Int) : Nat → Int
  | 0 => 0
  | k + 1 => (l k * f + mc B l f k) / B
def mf (B : Int) (l : Nat → Int) (f : Int) (k : Nat) : Int := (l k * f + mc B l f k) % B
theorem mc_b {B : Int} (hB : 0 < B) {l : Nat → Int} {f : Int} (hf : 0 ≤ f) : ∀ k, (∀ j, j < k → 0 ≤ l j ∧ l j < B) → 0 ≤ mc B l f k ∧ mc B l f k ≤ f := by
  intro k
  induction k with
  | zero => intro _; exact ⟨Int.le_refl _, hf⟩
  | succ k ih =>
    intro h
    have i := ih (fun j hj => h j (by omega))
    have hk := h k (by omega)
    have p1 := Int.mul_nonneg hk.1 hf
    have p2 := Int.mul_nonneg (show 0 ≤ B - l k - 1 by omega) hf
    have e3 : (B - l k - 1) * f = B * f - l k * f - f := by rw [Int.sub_mul, Int.sub_mul, Int.one_mul]
    have e : mc B l f (k + 1) = (l k * f + mc B l f k) / B := rfl
    rw [e]
    refine ⟨Int.ediv_nonneg (by omega) (by omega), ?_⟩
    have := Int.ediv_le_ediv hB (show l k * f + mc B l f k ≤ B * f by omega)
    rw [Int.mul_ediv_cancel_left _ (by omega)] at this
    exact this
theorem mf_v {B : Int} (l : Nat → Int) (f : Int) : ∀ k, vl B (mf B l f) k + mc B l f k * B ^ k = vl B l k * f := by
  intro k
  induction k with
  | zero => show (0 : Int) + 0 * B ^ 0 = 0 * f; simp
  | succ k ih =>
    have e : vl B (mf B l f) (k + 1) = vl B (mf B l f) k + mf B l f k * B ^ k := rfl
    have e1 : vl B l (k + 1) = vl B l k + l k * B ^ k := rfl
    have e2 : mc B l f (k + 1) = (l k * f + mc B l f k) / B := rfl
    have e3 : B * ((l k * f + mc B l f k) / B) + (l k * f + mc B l f k) % B = l k * f + mc B l f k := Int.mul_ediv_add_emod _ _
    have e4 : B ^ (k + 1) = B * B ^ k := by rw [Int.pow_succ, Int.mul_comm]
    have e5 : mf B l f k = (l k * f + mc B l f k) % B := rfl
    rw [e, e1, e2, e4, e5]
    generalize (l k * f + mc B l f k) / B = q at *
    generalize (l k * f + mc B l f k) % B = r at *
    generalize B ^ k = p at *
    generalize vl B (mf B l f) k = v at *
    generalize vl B l k = u at *
    generalize mc B l f k = c at *
    have e6 : r = l k * f + c - B * q := by omega
    rw [e6]
    grind
theorem mf_b {B : Int} (hB : 0 < B) (l : Nat → Int) (f : Int) (k : Nat) : 0 ≤ mf B l f k ∧ mf B l f k < B := ⟨Int.emod_nonneg _ (by omega), Int.emod_lt_of_pos _ hB⟩
theorem mf_ok {B : Int} (hB : 0 < B) {l : Nat → Int} {f : Int} (hf : 0 ≤ f) {n : Nat} (hl : ∀ j, j < n → 0 ≤ l j ∧ l j < B) (hp : vl B l n * f < B ^ n) : vl B (mf B l f) n = vl B l n * f := by
  have v := mf_v (B := B) l f n
  have a := vl_b hB n (fun j _ => mf_b hB l f j)
  have c := mc_b hB hf n hl
  have hpn : 0 < B ^ n := Int.pow_pos hB
  rcases (show mc B l f n = 0 ∨ 1 ≤ mc B l f n by omega) with g | g
  · rw [g] at v; simp at v; exact v
  · exfalso
    have p2 := Int.mul_nonneg (show 0 ≤ mc B l f n - 1 by omega) (show 0 ≤ B ^ n by omega)
    have e3 : (mc B l f n - 1) * B ^ n = mc B l f n * B ^ n - B ^ n := by rw [Int.sub_mul, Int.one_mul]
    omega
/-! the class: wide products -/
set_option maxRecDepth 20000 in
set_option maxHeartbeats 2000000 in
theorem s_Wi_multiplyBy {E : AE} {l : Launch} {h : AH} {c : Nat} (hc : c = 8 ∨ c = 10) {f : Int} (f1 : 0 ≤ f) (f2 : f < 274877906944) (hl : ∀ j, j < 5 → 0 ≤ h (c + 1) j ∧ h (c + 1) j < 16777216) {Q : AR} (hQ : Q none (aw h (c + 1) (mf 16777216 (h (c + 1)) f) 5)) : am_g E l 40 [.inr (.inr c), .inr (.inl f)] h Q := by
  have key : ∀ k, k < 5 → 0 ≤ h (c + 1) k * f ∧ h (c + 1) k * f ≤ 4611686018427387904 := fun k hk => by
    have a := hl k hk
    have p1 := Int.mul_nonneg a.1 f1
    have p2 := Int.mul_nonneg (show 0 ≤ 16777216 - h (c + 1) k by omega) f1
    have p3 : (16777216 - h (c + 1) k) * f = 16777216 * f - h (c + 1) k * f := by rw [Int.sub_mul]
    omega
  rcases hc with rfl | rfl
  · refine am_met T_Wi_multiplyBy (by decide) (Nat.le_of_ble_eq_true rfl) (fun J hJ => ?_)
    have loop : ∀ d k : Nat, ∀ (x y : Option AV), k + d = 5 → J 5 [some (.inr (.inr 8)), some (.inr (.inl f)), none, some (.inr (.inl (mc 16777216 (h 9) f k))), none, some (.inl (k : Int)), x, y] [] (aw h 9 (mf 16777216 (h 9) f) k) := by
      intro d
      induction d with
      | zero =>
        intro k x y hk
        have : k = 5 := by omega
        subst this
        repeat (first | refine hJ _ _ _ _ ?_ | refine And.intro (by omega) (fun _ => ?_) | refine And.intro (by omega) ?_ | refine And.intro (fun _ => ?_) (by omega))
        exact hQ
      | succ d ih =>
        intro k x y hk
        have e : aw h 9 (mf 16777216 (h 9) f) k 9 (Int.toNat (k : Int)) = h 9 k := by simp [aw]
        have b := mc_b (B := 16777216) (by decide) (l := h 9) f1 k (fun j hj => hl j (by omega))
        have kk : 0 ≤ h 9 k * f ∧ h 9 k * f ≤ 4611686018427387904 := key k (by omega)
        have this := ih (k + 1) (some (.inr (.inl (h 9 k * f + mc 16777216 (h 9) f k)))) none (by omega)
        rw [← aw_s] at this
        refine hJ _ _ _ _ ?_
        refine hJ _ _ _ _ ?_
        refine hJ _ _ _ _ ?_
        refine And.intro (by omega) (And.intro (fun _ => by omega) (fun _ => ?_))
        refine hJ _ _ _ _ ?_
        refine hJ _ _ _ _ ?_
        refine hJ _ _ _ _ ?_
        refine hJ _ _ _ _ ?_
        refine And.intro (by omega) ?_
        rw [e]
        repeat (first | exact this | refine hJ _ _ _ _ ?_ | refine And.intro (by omega) (fun _ => ?_) | refine And.intro (by omega) ?_ | refine And.intro (fun _ => ?_) (by omega))
    have this := loop 5 0 none none (by omega)
    rw [aw_0] at this
    repeat (first | exact this | refine hJ _ _ _ _ ?_ | refine And.intro (by omega) (fun _ => ?_) | refine And.intro (by omega) ?_ | refine And.intro (fun _ => ?_) (by omega))
  · refine am_met T_Wi_multiplyBy (by decide) (Nat.le_of_ble_eq_true rfl) (fun J hJ => ?_)
    have loop : ∀ d k : Nat, ∀ (x y : Option AV), k + d = 5 → J 5 [some (.inr (.inr 10)), some (.inr (.inl f)), none, some (.inr (.inl (mc 16777216 (h 11) f k))), none, some (.inl (k : Int)), x, y] [] (aw h 11 (mf 16777216 (h 11) f) k) := by
      intro d
      induction d with
      | zero =>
        intro k x y hk
        have : k = 5 := by omega
        subst this
        repeat (first | refine hJ _ _ _ _ ?_ | refine And.intro (by omega) (fun _ => ?_) | refine And.intro (by omega) ?_ | refine And.intro (fun _ => ?_) (by omega))
        exact hQ
      | succ d ih =>
        intro k x y hk
        have e : aw h 11 (mf 16777216 (h 11) f) k 11 (Int.toNat (k : Int)) = h 11 k := by simp [aw]
        have b := mc_b (B := 16777216) (by decide) (l := h 11) f1 k (fun j hj => hl j (by omega))
        have kk : 0 ≤ h 11 k * f ∧ h 11 k * f ≤ 4611686018427387904 := key k (by omega)
        have this := ih (k + 1) (some (.inr (.inl (h 11 k * f + mc 16777216 (h 11) f k)))) none (by omega)
        rw [← aw_s] at this
        refine hJ _ _ _ _ ?_
        refine hJ _ _ _ _ ?_
        refine hJ _ _ _ _ ?_
        refine And.intro (by omega) (And.intro (fun _ => by omega) (fun _ => ?_))
        refine hJ _ _ _ _ ?_
        refine hJ _ _ _ _ ?_
        refine hJ _ _ _ _ ?_
        refine hJ _ _ _ _ ?_
        refine And.intro (by omega) ?_
        rw [e]
        repeat (first | exact this | refine hJ _ _ _ _ ?_ | refine And.intro (by omega) (fun _ => ?_) | refine And.intro (by omega) ?_ | refine And.intro (fun _ => ?_) (by omega))
    have this := loop 5 0 none none (by omega)
    rw [aw_0] at this
    repeat (first | exact this | refine hJ _ _ _ _ ?_ | refine And.intro (by omega) (fun _ => ?_) | refine And.intro (by omega) ?_ | refine And.intro (fun _ => ?_) (by omega))
