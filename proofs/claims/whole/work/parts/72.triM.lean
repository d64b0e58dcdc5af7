/-! the reference: triangles -/
theorem st_lt {L : List Nat} (h : L.Pairwise (· < ·)) {i j : Nat} (hij : i < j) (hj : j < L.length) : L.getD i 0 < L.getD j 0 := by
  have hi : i < L.length := by omega
  rw [List.getD_eq_getElem?_getD, List.getD_eq_getElem?_getD, List.getElem?_eq_getElem hi, List.getElem?_eq_getElem hj]
  exact List.pairwise_iff_getElem.mp h i j hi hj hij
theorem st_ex {L : List Nat} {x : Nat} (h : x ∈ L) : ∃ j, j < L.length ∧ L.getD j 0 = x := by
  obtain ⟨i, hi, e⟩ := List.mem_iff_getElem.mp h
  refine ⟨i, hi, ?_⟩
  rw [List.getD_eq_getElem?_getD, List.getElem?_eq_getElem hi]
  exact e
theorem st_le {L : List Nat} (h : L.Pairwise (· < ·)) {i j : Nat} (hij : i ≤ j) (hj : j < L.length) : L.getD i 0 ≤ L.getD j 0 := by
  rcases (show i = j ∨ i < j by omega) with g | g
  · subst g; exact Nat.le_refl _
  · exact Nat.le_of_lt (st_lt h g hj)
theorem st_inj {L : List Nat} (h : L.Pairwise (· < ·)) {i j : Nat} (hi : i < L.length) (hj : j < L.length) (e : L.getD i 0 = L.getD j 0) : i = j := by
  rcases (show i < j ∨ j < i ∨ i = j by omega) with g | g | g
  · have := st_lt h g hj; omega
  · have := st_lt h g hi; omega
  · exact g
theorem st_gap {L : List Nat} (h : L.Pairwise (· < ·)) {p x : Nat} (hp : p + 1 < L.length) (h1 : L.getD p 0 < x) (h2 : x < L.getD (p + 1) 0) : x ∉ L := fun hx => by
  obtain ⟨j, hj, rfl⟩ := st_ex hx
  rcases (show j ≤ p ∨ p + 1 ≤ j by omega) with g | g
  · have := st_le h g (by omega); omega
  · have := st_le h g hj; omega
theorem st_top {L : List Nat} (h : L.Pairwise (· < ·)) {p x : Nat} (hp : p + 1 = L.length) (h1 : L.getD p 0 < x) : x ∉ L := fun hx => by
  obtain ⟨j, hj, rfl⟩ := st_ex hx
  have := st_le h (show j ≤ p by omega) (by omega)
  omega
theorem st_bot {L : List Nat} (h : L.Pairwise (· < ·)) {x : Nat} (h1 : x < L.getD 0 0) : x ∉ L := fun hx => by
  obtain ⟨j, hj, rfl⟩ := st_ex hx
  have := st_le h (show 0 ≤ j by omega) hj
  omega
theorem st_erase {L : List Nat} (h : L.Pairwise (· < ·)) {p x : Nat} (hp : p < L.length) : x ∈ L.eraseIdx p ↔ (x ∈ L ∧ x ≠ L.getD p 0) := by
  have hl : (L.eraseIdx p).length = L.length - 1 := by rw [List.length_eraseIdx, if_pos hp]
  constructor
  · intro hx
    refine ⟨List.mem_of_mem_eraseIdx hx, ?_⟩
    obtain ⟨j, hj, e⟩ := st_ex hx
    rw [er_getD] at e
    rw [← e]
    by_cases hjp : j < p
    · rw [if_pos hjp]
      have := st_lt h hjp hp
      omega
    · rw [if_neg hjp]
      have := st_lt h (show p < j + 1 by omega) (by omega)
      omega
  · rintro ⟨hx, hne⟩
    obtain ⟨j, hj, rfl⟩ := st_ex hx
    have hjp : j ≠ p := fun g => hne (by rw [g])
    rcases (show j < p ∨ p < j by omega) with g | g
    · have e : (L.eraseIdx p).getD j 0 = L.getD j 0 := by rw [er_getD, if_pos g]
      rw [← e]
      exact tr_mem (by omega)
    · have e : (L.eraseIdx p).getD (j - 1) 0 = L.getD j 0 := by rw [er_getD, if_neg (by omega), show j - 1 + 1 = j by omega]
      rw [← e]
      exact tr_mem (by omega)
/-- what has been cut off, in the heap -/
def mcut (h : AH) (m : Nat) (L : List Nat) : Prop := ∀ j, j < m → (j ∈ L ∧ h 33 j = 0) ∨ (j ∉ L ∧ h 33 j = 1)
set_option maxRecDepth 20000 in
set_option maxHeartbeats 2000000 in
theorem s_Mo_left1 {E : AE} {l : Launch} {h : AH} {m : Nat} (hm : h 24 5 = (m : Int)) (m40 : m ≤ 40) {L : List Nat} (hp : L.Pairwise (· < ·)) (hlm : ∀ a, a ∈ L → a < m) (C : mcut h m L) {p : Nat} (hpl : p < L.length) {Q : AR} (hQ : Q (some (.inl ((L.getD (nx L.length p) 0 : Nat) : Int))) h) : am_g E l 145 [.inr (.inr 24), .inl ((L.getD p 0 : Nat) : Int), .inl 1] h Q := by
  have hi := hlm _ (tr_mem hpl)
  obtain ⟨i, ei⟩ : ∃ i, i = L.getD p 0 := ⟨_, rfl⟩
  rw [← ei] at hi
  have m0 : 0 < m := by omega
  -- where it ends
  obtain ⟨T, hT1, hT2, hT3⟩ : ∃ T, i < T ∧ T % m = L.getD (nx L.length p) 0 ∧ ∀ j, i < j → j < T → j % m ∉ L := by
    by_cases hx : p + 1 < L.length
    · have e : nx L.length p = p + 1 := if_pos hx
      have h1 := st_lt hp (show p < p + 1 by omega) hx
      have h2 := hlm _ (tr_mem hx)
      refine ⟨L.getD (p + 1) 0, by omega, by rw [e]; exact Nat.mod_eq_of_lt h2, fun j j1 j2 => ?_⟩
      rw [Nat.mod_eq_of_lt (by omega)]
      exact st_gap hp hx (by omega) j2
    · have e : nx L.length p = 0 := if_neg hx
      have h2 := hlm _ (tr_mem (show 0 < L.length by omega))
      refine ⟨L.getD 0 0 + m, by omega, by rw [e, Nat.add_mod_right]; exact Nat.mod_eq_of_lt h2, fun j j1 j2 => ?_⟩
      by_cases hj : j < m
      · rw [Nat.mod_eq_of_lt hj]
        exact st_top hp (p := p) (by omega) (by omega)
      · have e2 : j % m = j - m := by rw [Nat.mod_eq_sub_mod (by omega), Nat.mod_eq_of_lt (by omega)]
        rw [e2]
        exact st_bot hp (by omega)
  have hTl := tr_mem (nx_lt hpl)
  rw [← ei]
  refine am_met T_Mo_leftFrom (by decide) (Nat.le_of_ble_eq_true rfl) (fun J hJ => ?_)
  have loop : ∀ d j κ : Nat, j + d = T → i < j → κ = j % m → κ < m → J 9 [some (.inr (.inr 24)), some (.inl (i : Int)), some (.inl 1), some (.inl (κ : Int))] [] h := by
    intro d
    induction d with
    | zero =>
      intro j κ hj hij hk hkm
      have ek : κ = L.getD (nx L.length p) 0 := by rw [hk, show j = T by omega, hT2]
      have hc : h 33 (Int.toNat (κ : Int)) = 0 := by
        rcases C κ hkm with ⟨-, g⟩ | ⟨g, -⟩
        · exact g
        · rw [ek] at g; exact absurd hTl g
      repeat (first | refine hJ _ _ _ _ ?_ | refine And.intro (by omega) (fun _ => ?_) | refine And.intro (by omega) ?_ | refine And.intro (fun _ => ?_) (by omega))
      rw [ek]
      exact hQ
    | succ d ih =>
      intro j κ hj hij hk hkm
      have hno := hT3 j hij (by omega)
      rw [← hk] at hno
      have hc : h 33 (Int.toNat (κ : Int)) = 1 := by
        rcases C κ hkm with ⟨g, -⟩ | ⟨-, g⟩
        · exact absurd g hno
        · exact g
      have ek : ((κ : Int) + 1) % h 24 5 = (((κ + 1) % m : Nat) : Int) := by rw [hm]; rfl
      have this := ih (j + 1) ((κ + 1) % m) (by omega) (by omega) (by rw [hk, Nat.mod_add_mod]) (Nat.mod_lt _ m0)
      rw [← ek] at this
      repeat (first | exact this | refine hJ _ _ _ _ ?_ | refine And.intro (by omega) (fun _ => ?_) | refine And.intro (by omega) ?_ | refine And.intro (fun _ => ?_) (by omega))
  have ek : ((i : Int) + 1) % h 24 5 = (((i + 1) % m : Nat) : Int) := by rw [hm]; rfl
  have this := loop (T - (i + 1)) (i + 1) ((i + 1) % m) (by omega) (by omega) rfl (Nat.mod_lt _ m0)
  rw [← ek] at this
  repeat (first | exact this | refine hJ _ _ _ _ ?_ | refine And.intro (by omega) (fun _ => ?_) | refine And.intro (by omega) ?_ | refine And.intro (fun _ => ?_) (by omega))
set_option maxRecDepth 20000 in
set_option maxHeartbeats 2000000 in
theorem s_Mo_leftm {E : AE} {l : Launch} {h : AH} {m : Nat} (hm : h 24 5 = (m : Int)) (m40 : m ≤ 40) {L : List Nat} (hp : L.Pairwise (· < ·)) (hlm : ∀ a, a ∈ L → a < m) (C : mcut h m L) {p : Nat} (hpl : p < L.length) {Q : AR} (hQ : Q (some (.inl ((L.getD (bx L.length p) 0 : Nat) : Int))) h) : am_g E l 145 [.inr (.inr 24), .inl ((L.getD p 0 : Nat) : Int), .inl (h 24 5 - 1)] h Q := by
  have hi := hlm _ (tr_mem hpl)
  obtain ⟨i, ei⟩ : ∃ i, i = L.getD p 0 := ⟨_, rfl⟩
  rw [← ei] at hi
  have m0 : 0 < m := by omega
  obtain ⟨T, hT1, hT2, hT3⟩ : ∃ T, T ≤ i + m - 1 ∧ T % m = L.getD (bx L.length p) 0 ∧ ∀ j, T < j → j ≤ i + m - 1 → j % m ∉ L := by
    by_cases hx : 0 < p
    · have e : bx L.length p = p - 1 := if_pos hx
      have h1 := st_lt hp (show p - 1 < p by omega) hpl
      have h2 := hlm _ (tr_mem (show p - 1 < L.length by omega))
      refine ⟨L.getD (p - 1) 0 + m, by omega, by rw [e, Nat.add_mod_right]; exact Nat.mod_eq_of_lt h2, fun j j1 j2 => ?_⟩
      have e2 : j % m = j - m := by rw [Nat.mod_eq_sub_mod (by omega), Nat.mod_eq_of_lt (by omega)]
      rw [e2]
      have ep : p - 1 + 1 = p := by omega
      refine st_gap hp (p := p - 1) (by omega) (by omega) ?_
      rw [ep, ← ei]
      omega
    · have e : bx L.length p = L.length - 1 := if_neg hx
      have ep : p = 0 := by omega
      have h2 := hlm _ (tr_mem (show L.length - 1 < L.length by omega))
      refine ⟨L.getD (L.length - 1) 0, by omega, by rw [e]; exact Nat.mod_eq_of_lt h2, fun j j1 j2 => ?_⟩
      by_cases hj : j < m
      · rw [Nat.mod_eq_of_lt hj]
        exact st_top hp (p := L.length - 1) (by omega) j1
      · have e2 : j % m = j - m := by rw [Nat.mod_eq_sub_mod (by omega), Nat.mod_eq_of_lt (by omega)]
        rw [e2]
        rw [ep] at ei
        exact st_bot hp (by omega)
  have hTl := tr_mem (bx_lt hpl)
  rw [← ei]
  have em : h 24 5 - 1 = ((m - 1 : Nat) : Int) := by omega
  refine am_met T_Mo_leftFrom (by decide) (Nat.le_of_ble_eq_true rfl) (fun J hJ => ?_)
  have loop : ∀ d j κ : Nat, j = T + d → j ≤ i + m - 1 → κ = j % m → κ < m → J 9 [some (.inr (.inr 24)), some (.inl (i : Int)), some (.inl (h 24 5 - 1)), some (.inl (κ : Int))] [] h := by
    intro d
    induction d with
    | zero =>
      intro j κ hj hij hk hkm
      have ek : κ = L.getD (bx L.length p) 0 := by rw [hk, show j = T by omega, hT2]
      have hc : h 33 (Int.toNat (κ : Int)) = 0 := by
        rcases C κ hkm with ⟨-, g⟩ | ⟨g, -⟩
        · exact g
        · rw [ek] at g; exact absurd hTl g
      repeat (first | refine hJ _ _ _ _ ?_ | refine And.intro (by omega) (fun _ => ?_) | refine And.intro (by omega) ?_ | refine And.intro (fun _ => ?_) (by omega))
      rw [ek]
      exact hQ
    | succ d ih =>
      intro j κ hj hij hk hkm
      have hno := hT3 j (by omega) hij
      rw [← hk] at hno
      have hc : h 33 (Int.toNat (κ : Int)) = 1 := by
        rcases C κ hkm with ⟨g, -⟩ | ⟨-, g⟩
        · exact absurd g hno
        · exact g
      have ek : ((κ : Int) + (h 24 5 - 1)) % h 24 5 = (((κ + (m - 1)) % m : Nat) : Int) := by rw [em, hm]; rfl
      have this := ih (j - 1) ((κ + (m - 1)) % m) (by omega) (by omega) (by rw [hk, Nat.mod_add_mod, show j + (m - 1) = j - 1 + m by omega, Nat.add_mod_right]) (Nat.mod_lt _ m0)
      rw [← ek] at this
      repeat (first | exact this | refine hJ _ _ _ _ ?_ | refine And.intro (by omega) (fun _ => ?_) | refine And.intro (by omega) ?_ | refine And.intro (fun _ => ?_) (by omega))
  have ek : ((i : Int) + (h 24 5 - 1)) % h 24 5 = (((i + (m - 1)) % m : Nat) : Int) := by rw [em, hm]; rfl
  have this := loop (i + m - 1 - T) (i + m - 1) ((i + (m - 1)) % m) (by omega) (Nat.le_refl _) (by rw [show i + m - 1 = i + (m - 1) by omega]) (Nat.mod_lt _ m0)
  rw [← ek] at this
  repeat (first | exact this | refine hJ _ _ _ _ ?_ | refine And.intro (by omega) (fun _ => ?_) | refine And.intro (by omega) ?_ | refine And.intro (fun _ => ?_) (by omega))
theorem sg_s {s x : Int} (hs : s = 1 ∨ s = -1) : (sg x * s < 0 ↔ s * x < 0) ∧ -1 ≤ sg x * s ∧ sg x * s ≤ 1 ∧ (sg x = s ↔ 0 < s * x) := by
  rcases hs with rfl | rfl <;> rcases sg_v x with ⟨p, e⟩ | ⟨p, e⟩ | ⟨p, e⟩ <;> rw [e] <;> refine ⟨?_, by decide, by decide, ?_⟩ <;> omega
/-- an ear, by the places themselves -/
theorem tr_e_mem {rg : Nat → ge_P} {s : Int} {L : List Nat} (hp : L.Pairwise (· < ·)) {p : Nat} (hpl : p < L.length) : tr_e rg s L p ↔ (0 < s * ge_x (rg (L.getD (bx L.length p) 0)) (rg (L.getD p 0)) (rg (L.getD (nx L.length p) 0)) ∧ ∀ j, j ∈ L → j ≠ L.getD (bx L.length p) 0 → j ≠ L.getD p 0 → j ≠ L.getD (nx L.length p) 0 → ¬ tr_x s (rg (L.getD (bx L.length p) 0)) (rg (L.getD p 0)) (rg (L.getD (nx L.length p) 0)) (rg j)) := by
  constructor
  · rintro ⟨h1, h2⟩
    refine ⟨h1, fun j hj j1 j2 j3 => ?_⟩
    obtain ⟨k, hk, rfl⟩ := st_ex hj
    exact h2 k hk (fun g => j1 (by rw [g])) (fun g => j2 (by rw [g])) (fun g => j3 (by rw [g]))
  · rintro ⟨h1, h2⟩
    refine ⟨h1, fun k hk k1 k2 k3 => ?_⟩
    exact h2 _ (tr_mem hk) (fun g => k1 (st_inj hp hk (bx_lt hpl) g)) (fun g => k2 (st_inj hp hk hpl g)) (fun g => k3 (st_inj hp hk (nx_lt hpl) g))
set_option maxRecDepth 20000 in
set_option maxHeartbeats 2000000 in
theorem s_Mo_isEar {E : AE} {l : Launch} {h : AH} {n m : Nat} {pt rg : Nat → ge_P} (P : mp h n pt) (K : mr h n m pt rg) (hne : ∀ i k, i < m → k < m → i ≠ k → rg i ≠ rg k) {s : Int} (hs : s = 1 ∨ s = -1) {L : List Nat} (hp : L.Pairwise (· < ·)) (hlm : ∀ a, a ∈ L → a < m) (C : mcut h m L) {p : Nat} (hpl : p < L.length) {Q : AR} (h1 : tr_e rg s L p → Q (some (.inl 1)) h) (h0 : ¬ tr_e rg s L p → Q (some (.inl 0)) h) : am_g E l 146 [.inr (.inr 24), .inl ((L.getD p 0 : Nat) : Int), .inl s] h Q := by
  have n60 := P.2.1
  obtain ⟨hm, m40, hr⟩ := K
  have hsr : -1 ≤ s ∧ s ≤ 1 := by rcases hs with rfl | rfl <;> decide
  rw [tr_e_mem hp hpl] at h1 h0
  have la := hlm _ (tr_mem (bx_lt hpl))
  have lp := hlm _ (tr_mem hpl)
  have lb := hlm _ (tr_mem (nx_lt hpl))
  refine am_met T_Mo_isEar (by decide) (Nat.le_of_ble_eq_true rfl) (fun J hJ => ?_)
  obtain ⟨A, hA⟩ : ∃ A, A = L.getD (bx L.length p) 0 := ⟨_, rfl⟩
  obtain ⟨I, hI⟩ : ∃ I, I = L.getD p 0 := ⟨_, rfl⟩
  obtain ⟨B, hB⟩ : ∃ B, B = L.getD (nx L.length p) 0 := ⟨_, rfl⟩
  have c1 : ∀ {Q : AR}, Q (some (.inl (A : Int))) h → am_g E l 145 [.inr (.inr 24), .inl (I : Int), .inl (h 24 5 - 1)] h Q := fun {Q} q => by
    rw [hI]; rw [hA] at q; exact s_Mo_leftm hm m40 hp hlm C hpl q
  have c2 : ∀ {Q : AR}, Q (some (.inl (B : Int))) h → am_g E l 145 [.inr (.inr 24), .inl (I : Int), .inl 1] h Q := fun {Q} q => by
    rw [hI]; rw [hB] at q; exact s_Mo_left1 hm m40 hp hlm C hpl q
  rw [← hA, ← hI, ← hB] at h1 h0
  rw [← hA] at la
  rw [← hI] at lp
  rw [← hB] at lb
  rw [← hI]
  have wa : 0 ≤ h 27 (Int.toNat (A : Int)) ∧ h 27 (Int.toNat (A : Int)) < n ∧ pt (h 27 (Int.toNat (A : Int))).toNat = rg A := hr A la
  have wp : 0 ≤ h 27 (Int.toNat (I : Int)) ∧ h 27 (Int.toNat (I : Int)) < n ∧ pt (h 27 (Int.toNat (I : Int))).toNat = rg I := hr I lp
  have wb : 0 ≤ h 27 (Int.toNat (B : Int)) ∧ h 27 (Int.toNat (B : Int)) < n ∧ pt (h 27 (Int.toNat (B : Int))).toNat = rg B := hr B lb
  have xb := mp_x (mp_i P wa.1 wa.2.1).2.2 (mp_i P wp.1 wp.2.1).2.2 (mp_i P wb.1 wb.2.1).2.2
  rw [wa.2.2, wp.2.2, wb.2.2] at xb
  have sx := sg_s (x := ge_x (rg A) (rg I) (rg B)) hs
  have sr := sg_r (ge_x (rg A) (rg I) (rg B))
  have same : ∀ i k, i < m → k < m → h 27 i = h 27 k → i = k := fun i k hi hk e => by
    apply Classical.byContradiction
    intro g
    apply hne i k hi hk g
    rw [← (hr i hi).2.2, ← (hr k hk).2.2, e]
  have no : ∀ (k : Nat) (x y : Option AV), k ≤ m → ¬ (0 < s * ge_x (rg A) (rg I) (rg B) ∧ ∀ j, j ∈ L → j ≠ A → j ≠ I → j ≠ B → ¬ tr_x s (rg A) (rg I) (rg B) (rg j)) → J 64 [some (.inr (.inr 24)), some (.inl (I : Int)), some (.inl s), some (.inl (h 27 (Int.toNat (A : Int)))), some (.inl (h 27 (Int.toNat (I : Int)))), some (.inl (h 27 (Int.toNat (B : Int)))), some (.inl 0), some (.inl (k : Int)), x, y] [] h := by
    intro k x y hk hn
    by_cases hkm : k < m
    · repeat (first | refine hJ _ _ _ _ ?_ | refine And.intro (by omega) (fun _ => ?_) | refine And.intro (by omega) ?_ | refine And.intro (fun _ => ?_) (by omega))
      exact h0 hn
    · repeat (first | refine hJ _ _ _ _ ?_ | refine And.intro (by omega) (fun _ => ?_) | refine And.intro (by omega) ?_ | refine And.intro (fun _ => ?_) (by omega))
      exact h0 hn
  have loop : ∀ d k : Nat, ∀ (x y : Option AV), k + d = m → 0 < s * ge_x (rg A) (rg I) (rg B) → (∀ j, j < k → j ∈ L → j ≠ A → j ≠ I → j ≠ B → ¬ tr_x s (rg A) (rg I) (rg B) (rg j)) → J 64 [some (.inr (.inr 24)), some (.inl (I : Int)), some (.inl s), some (.inl (h 27 (Int.toNat (A : Int)))), some (.inl (h 27 (Int.toNat (I : Int)))), some (.inl (h 27 (Int.toNat (B : Int)))), some (.inl 1), some (.inl (k : Int)), x, y] [] h := by
    intro d
    induction d with
    | zero =>
      intro k x y hk hx hall
      repeat (first | refine hJ _ _ _ _ ?_ | refine And.intro (by omega) (fun _ => ?_) | refine And.intro (by omega) ?_ | refine And.intro (fun _ => ?_) (by omega))
      exact h1 ⟨hx, fun j hj => hall j (by have := hlm j hj; omega) hj⟩
    | succ d ih =>
      intro k x y hk hx hall
      have hkm : k < m := by omega
      have wk : 0 ≤ h 27 (Int.toNat (k : Int)) ∧ h 27 (Int.toNat (k : Int)) < n ∧ pt (h 27 (Int.toNat (k : Int))).toNat = rg k := hr k hkm
      have skip : (k ∉ L ∨ k = A ∨ k = I ∨ k = B) → ∀ j, j < k + 1 → j ∈ L → j ≠ A → j ≠ I → j ≠ B → ¬ tr_x s (rg A) (rg I) (rg B) (rg j) := fun g j hj hjl j1 j2 j3 => by
        rcases (show j < k ∨ j = k by omega) with q | q
        · exact hall j q hjl j1 j2 j3
        · subst q
          rcases g with g | g | g | g
          · exact absurd hjl g
          · exact absurd g j1
          · exact absurd g j2
          · exact absurd g j3
      rcases C k hkm with ⟨hkl, hc⟩ | ⟨hkl, hc⟩
      · have hc : h 33 (Int.toNat (k : Int)) = 0 := hc
        repeat (first | refine hJ _ _ _ _ ?_ | refine And.intro (by omega) (fun _ => ?_) | refine And.intro (by omega) ?_ | refine And.intro (fun _ => ?_) (by omega))
        refine And.intro (fun g1 => ?_) (fun g1 => ?_)
        · have e1 : k = A := same k A hkm la g1
          repeat (first | exact ih (k + 1) _ _ (by omega) hx (skip (.inr (.inl e1))) | refine hJ _ _ _ _ ?_ | refine And.intro (by omega) (fun _ => ?_) | refine And.intro (by omega) ?_ | refine And.intro (fun _ => ?_) (by omega))
        · have n1 : k ≠ A := fun e => g1 (by rw [e])
          repeat (first | refine hJ _ _ _ _ ?_ | refine And.intro (by omega) (fun _ => ?_) | refine And.intro (by omega) ?_ | refine And.intro (fun _ => ?_) (by omega))
          refine And.intro (fun g2 => ?_) (fun g2 => ?_)
          · have e1 : k = I := same k I hkm lp g2
            repeat (first | exact ih (k + 1) _ _ (by omega) hx (skip (.inr (.inr (.inl e1)))) | refine hJ _ _ _ _ ?_ | refine And.intro (by omega) (fun _ => ?_) | refine And.intro (by omega) ?_ | refine And.intro (fun _ => ?_) (by omega))
          · have n2 : k ≠ I := fun e => g2 (by rw [e])
            repeat (first | refine hJ _ _ _ _ ?_ | refine And.intro (by omega) (fun _ => ?_) | refine And.intro (by omega) ?_ | refine And.intro (fun _ => ?_) (by omega))
            refine And.intro (fun g3 => ?_) (fun g3 => ?_)
            · have e1 : k = B := same k B hkm lb g3
              repeat (first | exact ih (k + 1) _ _ (by omega) hx (skip (.inr (.inr (.inr e1)))) | refine hJ _ _ _ _ ?_ | refine And.intro (by omega) (fun _ => ?_) | refine And.intro (by omega) ?_ | refine And.intro (fun _ => ?_) (by omega))
            · have n3 : k ≠ B := fun e => g3 (by rw [e])
              have x1 := mp_x (mp_i P wa.1 wa.2.1).2.2 (mp_i P wp.1 wp.2.1).2.2 (mp_i P wk.1 wk.2.1).2.2
              have x2 := mp_x (mp_i P wp.1 wp.2.1).2.2 (mp_i P wb.1 wb.2.1).2.2 (mp_i P wk.1 wk.2.1).2.2
              have x3 := mp_x (mp_i P wb.1 wb.2.1).2.2 (mp_i P wa.1 wa.2.1).2.2 (mp_i P wk.1 wk.2.1).2.2
              rw [wa.2.2, wp.2.2, wk.2.2] at x1
              rw [wp.2.2, wb.2.2, wk.2.2] at x2
              rw [wb.2.2, wa.2.2, wk.2.2] at x3
              have s1 := sg_s (x := ge_x (rg A) (rg I) (rg k)) hs
              have s2 := sg_s (x := ge_x (rg I) (rg B) (rg k)) hs
              have s3 := sg_s (x := ge_x (rg B) (rg A) (rg k)) hs
              have tail : ∀ v : Int, ((v = 1 ∧ tr_x s (rg A) (rg I) (rg B) (rg k)) ∨ (v = 0 ∧ ¬ tr_x s (rg A) (rg I) (rg B) (rg k))) → J 174 [some (.inr (.inr 24)), some (.inl (I : Int)), some (.inl s), some (.inl (h 27 (Int.toNat (A : Int)))), some (.inl (h 27 (Int.toNat (I : Int)))), some (.inl (h 27 (Int.toNat (B : Int)))), some (.inl 1), some (.inl (k : Int)), some (.inl (h 27 (Int.toNat (k : Int)))), y] [.inl v] h := by
                intro v hv
                rcases hv with ⟨rfl, hv⟩ | ⟨rfl, hv⟩
                · repeat (first | exact no (k + 1) _ _ (by omega) (fun q => q.2 k hkl n1 n2 n3 hv) | refine hJ _ _ _ _ ?_ | refine And.intro (by omega) (fun _ => ?_) | refine And.intro (by omega) ?_ | refine And.intro (fun _ => ?_) (by omega))
                · have hall' : ∀ j, j < k + 1 → j ∈ L → j ≠ A → j ≠ I → j ≠ B → ¬ tr_x s (rg A) (rg I) (rg B) (rg j) := fun j hj hjl j1 j2 j3 => by
                    rcases (show j < k ∨ j = k by omega) with q | q
                    · exact hall j q hjl j1 j2 j3
                    · subst q; exact hv
                  repeat (first | exact ih (k + 1) _ _ (by omega) hx hall' | refine hJ _ _ _ _ ?_ | refine And.intro (by omega) (fun _ => ?_) | refine And.intro (by omega) ?_ | refine And.intro (fun _ => ?_) (by omega))
              repeat (first | refine hJ _ _ _ _ ?_ | refine And.intro (by omega) (fun _ => ?_) | refine And.intro (by omega) ?_ | refine And.intro (fun _ => ?_) (by omega))
              refine s_Mo_turnOf P wa.1 wa.2.1 wp.1 wp.2.1 wk.1 wk.2.1 ?_
              rw [wa.2.2, wp.2.2, wk.2.2]
              repeat (first | refine hJ _ _ _ _ ?_ | refine And.intro (by omega) (fun _ => ?_) | refine And.intro (by omega) ?_ | refine And.intro (fun _ => ?_) (by omega))
              refine s_Mo_signOf (by omega) (by omega) ?_
              repeat (first | refine hJ _ _ _ _ ?_ | refine And.intro (by omega) (fun _ => ?_) | refine And.intro (by omega) ?_ | refine And.intro (fun _ => ?_) (by omega))
              refine And.intro (fun q1 => ?_) (fun q1 => ?_)
              · have := s1.1.mp q1
                repeat (first | exact tail 0 (.inr ⟨rfl, fun q => by have := q.1; omega⟩) | refine hJ _ _ _ _ ?_ | refine And.intro (by omega) (fun _ => ?_) | refine And.intro (by omega) ?_ | refine And.intro (fun _ => ?_) (by omega))
              · have r1 : 0 ≤ s * ge_x (rg A) (rg I) (rg k) := Int.not_lt.mp (fun z => Int.not_lt.mpr q1 (s1.1.mpr z))
                repeat (first | refine hJ _ _ _ _ ?_ | refine And.intro (by omega) (fun _ => ?_) | refine And.intro (by omega) ?_ | refine And.intro (fun _ => ?_) (by omega))
                refine s_Mo_turnOf P wp.1 wp.2.1 wb.1 wb.2.1 wk.1 wk.2.1 ?_
                rw [wp.2.2, wb.2.2, wk.2.2]
                repeat (first | refine hJ _ _ _ _ ?_ | refine And.intro (by omega) (fun _ => ?_) | refine And.intro (by omega) ?_ | refine And.intro (fun _ => ?_) (by omega))
                refine s_Mo_signOf (by omega) (by omega) ?_
                repeat (first | refine hJ _ _ _ _ ?_ | refine And.intro (by omega) (fun _ => ?_) | refine And.intro (by omega) ?_ | refine And.intro (fun _ => ?_) (by omega))
                refine And.intro (fun q2 => ?_) (fun q2 => ?_)
                · have := s2.1.mp q2
                  repeat (first | exact tail 0 (.inr ⟨rfl, fun q => by have := q.2.1; omega⟩) | refine hJ _ _ _ _ ?_ | refine And.intro (by omega) (fun _ => ?_) | refine And.intro (by omega) ?_ | refine And.intro (fun _ => ?_) (by omega))
                · have r2 : 0 ≤ s * ge_x (rg I) (rg B) (rg k) := Int.not_lt.mp (fun z => Int.not_lt.mpr q2 (s2.1.mpr z))
                  repeat (first | refine hJ _ _ _ _ ?_ | refine And.intro (by omega) (fun _ => ?_) | refine And.intro (by omega) ?_ | refine And.intro (fun _ => ?_) (by omega))
                  refine s_Mo_turnOf P wb.1 wb.2.1 wa.1 wa.2.1 wk.1 wk.2.1 ?_
                  rw [wb.2.2, wa.2.2, wk.2.2]
                  repeat (first | refine hJ _ _ _ _ ?_ | refine And.intro (by omega) (fun _ => ?_) | refine And.intro (by omega) ?_ | refine And.intro (fun _ => ?_) (by omega))
                  refine s_Mo_signOf (by omega) (by omega) ?_
                  repeat (first | refine hJ _ _ _ _ ?_ | refine And.intro (by omega) (fun _ => ?_) | refine And.intro (by omega) ?_ | refine And.intro (fun _ => ?_) (by omega))
                  refine And.intro (fun q3 => ?_) (fun q3 => ?_)
                  · have := s3.1.mp q3
                    repeat (first | exact tail 0 (.inr ⟨rfl, fun q => by have := q.2.2; omega⟩) | refine hJ _ _ _ _ ?_ | refine And.intro (by omega) (fun _ => ?_) | refine And.intro (by omega) ?_ | refine And.intro (fun _ => ?_) (by omega))
                  · have r3 : 0 ≤ s * ge_x (rg B) (rg A) (rg k) := Int.not_lt.mp (fun z => Int.not_lt.mpr q3 (s3.1.mpr z))
                    repeat (first | exact tail 1 (.inl ⟨rfl, r1, r2, r3⟩) | refine hJ _ _ _ _ ?_ | refine And.intro (by omega) (fun _ => ?_) | refine And.intro (by omega) ?_ | refine And.intro (fun _ => ?_) (by omega))
      · have hc : h 33 (Int.toNat (k : Int)) = 1 := hc
        repeat (first | exact ih (k + 1) _ _ (by omega) hx (skip (.inl hkl)) | refine hJ _ _ _ _ ?_ | refine And.intro (by omega) (fun _ => ?_) | refine And.intro (by omega) ?_ | refine And.intro (fun _ => ?_) (by omega))
  repeat (first | refine hJ _ _ _ _ ?_ | refine And.intro (by omega) (fun _ => ?_) | refine And.intro (by omega) ?_ | refine And.intro (fun _ => ?_) (by omega))
  refine c1 ?_
  repeat (first | refine hJ _ _ _ _ ?_ | refine And.intro (by omega) (fun _ => ?_) | refine And.intro (by omega) ?_ | refine And.intro (fun _ => ?_) (by omega))
  refine c2 ?_
  repeat (first | refine hJ _ _ _ _ ?_ | refine And.intro (by omega) (fun _ => ?_) | refine And.intro (by omega) ?_ | refine And.intro (fun _ => ?_) (by omega))
  refine s_Mo_turnOf P wa.1 wa.2.1 wp.1 wp.2.1 wb.1 wb.2.1 ?_
  rw [wa.2.2, wp.2.2, wb.2.2]
  repeat (first | refine hJ _ _ _ _ ?_ | refine And.intro (by omega) (fun _ => ?_) | refine And.intro (by omega) ?_ | refine And.intro (fun _ => ?_) (by omega))
  refine s_Mo_signOf (by omega) (by omega) ?_
  repeat (first | refine hJ _ _ _ _ ?_ | refine And.intro (by omega) (fun _ => ?_) | refine And.intro (by omega) ?_ | refine And.intro (fun _ => ?_) (by omega))
  refine And.intro (fun g => ?_) (fun g => ?_)
  · repeat (first | exact no 0 _ _ (by omega) (fun q => g (sx.2.2.2.mpr q.1)) | refine hJ _ _ _ _ ?_ | refine And.intro (by omega) (fun _ => ?_) | refine And.intro (by omega) ?_ | refine And.intro (fun _ => ?_) (by omega))
  · repeat (first | exact loop m 0 _ _ (by omega) (sx.2.2.2.mp g) (fun j hj => absurd hj (Nat.not_lt_zero _)) | refine hJ _ _ _ _ ?_ | refine And.intro (by omega) (fun _ => ?_) | refine And.intro (by omega) ?_ | refine And.intro (fun _ => ?_) (by omega))
