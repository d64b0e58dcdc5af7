/-! the sides of a hull -/
def hs_h (cp : Nat → ge_P) (m i : Nat) (k : Nat) : Int := fo (fun j x => if x < ge_x (cp i) (cp (nx m i)) (cp j) then ge_x (cp i) (cp (nx m i)) (cp j) else x) 0 0 k
def hs_a (cp : Nat → ge_P) (m i : Nat) (k : Nat) : Int := fo (fun j x => if ge_dot (cp i) (cp (nx m i)) (cp j) < x then ge_dot (cp i) (cp (nx m i)) (cp j) else x) 0 0 k
def hs_z (cp : Nat → ge_P) (m i : Nat) (k : Nat) : Int := fo (fun j x => if x < ge_dot (cp i) (cp (nx m i)) (cp j) then ge_dot (cp i) (cp (nx m i)) (cp j) else x) 0 0 k
theorem hs_h_s (cp : Nat → ge_P) (m i k : Nat) : hs_h cp m i (k + 1) = if hs_h cp m i k < ge_x (cp i) (cp (nx m i)) (cp k) then ge_x (cp i) (cp (nx m i)) (cp k) else hs_h cp m i k := fo_s (Nat.zero_le _)
theorem hs_a_s (cp : Nat → ge_P) (m i k : Nat) : hs_a cp m i (k + 1) = if ge_dot (cp i) (cp (nx m i)) (cp k) < hs_a cp m i k then ge_dot (cp i) (cp (nx m i)) (cp k) else hs_a cp m i k := fo_s (Nat.zero_le _)
theorem hs_z_s (cp : Nat → ge_P) (m i k : Nat) : hs_z cp m i (k + 1) = if hs_z cp m i k < ge_dot (cp i) (cp (nx m i)) (cp k) then ge_dot (cp i) (cp (nx m i)) (cp k) else hs_z cp m i k := fo_s (Nat.zero_le _)
/-- places that are not far -/
def nf (cp : Nat → ge_P) (m : Nat) : Prop := ∀ j, j < m → -100000 ≤ (cp j).1 ∧ (cp j).1 ≤ 100000 ∧ -100000 ≤ (cp j).2 ∧ (cp j).2 ≤ 100000
theorem hs_b {cp : Nat → ge_P} {m i : Nat} (hf : nf cp m) (hi : i < m) : ∀ k, k ≤ m → (0 ≤ hs_h cp m i k ∧ hs_h cp m i k ≤ 80000000000) ∧ (-80000000000 ≤ hs_a cp m i k ∧ hs_a cp m i k ≤ 0) ∧ (0 ≤ hs_z cp m i k ∧ hs_z cp m i k ≤ 80000000000) := by
  intro k
  induction k with
  | zero => intro _; exact ⟨⟨Int.le_refl _, show (0 : Int) ≤ 80000000000 by decide⟩, ⟨show (-80000000000 : Int) ≤ 0 by decide, Int.le_refl _⟩, ⟨Int.le_refl _, show (0 : Int) ≤ 80000000000 by decide⟩⟩
  | succ k ih =>
    intro hk
    have i0 := ih (by omega)
    have bx := mp_x (hf i hi) (hf _ (nx_lt hi)) (hf k (by omega))
    have bd := mp_dot (hf i hi) (hf _ (nx_lt hi)) (hf k (by omega))
    rw [hs_h_s, hs_a_s, hs_z_s]
    refine ⟨?_, ?_, ?_⟩
    · split <;> omega
    · split <;> omega
    · split <;> omega
abbrev hs_s (cp : Nat → ge_P) (m i : Nat) : Int := hs_z cp m i m - hs_a cp m i m
abbrev hs_l (cp : Nat → ge_P) (m i : Nat) : Int := hu_d (cp i) (cp (nx m i))
set_option maxRecDepth 20000 in
set_option maxHeartbeats 2000000 in
theorem s_Hs_height {E : AE} {l : Launch} {h : AH} (H : pd_ok h) {m : Nat} {cp : Nat → ge_P} (K : hk h 4 m cp) (hf : nf cp m) {i : Nat} (hi : i < m) {Q : AR} (hQ : Q (some (.inr (.inl (hs_h cp m i m)))) h) : am_g E l 36 [.inr (.inr 7), .inl (i : Int)] h Q := by
  have m60 := K.2.1
  have hm : h 4 3 = (m : Int) := K.1
  have hw : ∀ j : Nat, j < m → 0 ≤ h 6 j ∧ h 6 j < 60 ∧ pd_p h (h 6 j) = cp j := K.2.2
  have wi : 0 ≤ h 6 (Int.toNat (i : Int)) ∧ h 6 (Int.toNat (i : Int)) < 60 ∧ pd_p h (h 6 (Int.toNat (i : Int))) = cp i := hw i hi
  have wn := hw (nx m i) (nx_lt hi)
  refine am_met T_Hs_height (by decide) (Nat.le_of_ble_eq_true rfl) (fun J hJ => ?_)
  have loop : ∀ d k : Nat, ∀ acc : Int, k + d = m → acc = hs_h cp m i k → J 5 [some (.inr (.inr 7)), some (.inl (i : Int)), some (.inr (.inl acc)), none, some (.inl (k : Int))] [] h := by
    intro d
    induction d with
    | zero =>
      intro k acc hk ha
      have : k = m := by omega
      subst this
      repeat (first | refine hJ _ _ _ _ ?_ | refine And.intro (by omega) (fun _ => ?_) | refine And.intro (by omega) ?_ | refine And.intro (fun _ => ?_) (by omega))
      rw [ha]
      exact hQ
    | succ d ih =>
      intro k acc hk ha
      have wk : 0 ≤ h 6 (Int.toNat (k : Int)) ∧ h 6 (Int.toNat (k : Int)) < 60 ∧ pd_p h (h 6 (Int.toNat (k : Int))) = cp k := hw k (by omega)
      have bb := (hs_b hf hi k (by omega)).1
      have bx := mp_x (hf i hi) (hf _ (nx_lt hi)) (hf k (by omega))
      have es := hs_h_s cp m i k
      rw [← ha] at bb es
      repeat (first | refine hJ _ _ _ _ ?_ | refine And.intro (by omega) (fun _ => ?_) | refine And.intro (by omega) ?_ | refine And.intro (fun _ => ?_) (by omega))
      refine s_Hu_cornerAfter (.inl rfl) hm m60 hi ?_
      repeat (first | refine hJ _ _ _ _ ?_ | refine And.intro (by omega) (fun _ => ?_) | refine And.intro (by omega) ?_ | refine And.intro (fun _ => ?_) (by omega))
      refine s_Po_crossProduct H wi.1 (Int.lt_trans wi.2.1 (by decide)) wn.1 (Int.lt_trans wn.2.1 (by decide)) wk.1 (Int.lt_trans wk.2.1 (by decide)) ?_
      rw [wi.2.2, wn.2.2, wk.2.2]
      repeat (first | exact ih (k + 1) _ (by omega) (by rw [es]; split <;> split <;> omega) | refine hJ _ _ _ _ ?_ | refine And.intro (by omega) (fun _ => ?_) | refine And.intro (by omega) ?_ | refine And.intro (fun _ => ?_) (by omega))
  repeat (first | exact loop m 0 _ (by omega) rfl | refine hJ _ _ _ _ ?_ | refine And.intro (by omega) (fun _ => ?_) | refine And.intro (by omega) ?_ | refine And.intro (fun _ => ?_) (by omega))
set_option maxRecDepth 20000 in
set_option maxHeartbeats 2000000 in
theorem s_Hs_length {E : AE} {l : Launch} {h : AH} (H : pd_ok h) {m : Nat} {cp : Nat → ge_P} (K : hk h 4 m cp) {i : Nat} (hi : i < m) {Q : AR} (hQ : Q (some (.inr (.inl (hs_l cp m i)))) h) : am_g E l 39 [.inr (.inr 7), .inl (i : Int)] h Q := by
  have m60 := K.2.1
  have hm : h 4 3 = (m : Int) := K.1
  have hw : ∀ j : Nat, j < m → 0 ≤ h 6 j ∧ h 6 j < 60 ∧ pd_p h (h 6 j) = cp j := K.2.2
  have wi : 0 ≤ h 6 (Int.toNat (i : Int)) ∧ h 6 (Int.toNat (i : Int)) < 60 ∧ pd_p h (h 6 (Int.toNat (i : Int))) = cp i := hw i hi
  have wn := hw (nx m i) (nx_lt hi)
  refine am_met T_Hs_length (by decide) (Nat.le_of_ble_eq_true rfl) (fun J hJ => ?_)
  repeat (first | refine hJ _ _ _ _ ?_ | refine And.intro (by omega) (fun _ => ?_) | refine And.intro (by omega) ?_ | refine And.intro (fun _ => ?_) (by omega))
  refine s_Hu_cornerAfter (.inl rfl) hm m60 hi ?_
  repeat (first | refine hJ _ _ _ _ ?_ | refine And.intro (by omega) (fun _ => ?_) | refine And.intro (by omega) ?_ | refine And.intro (fun _ => ?_) (by omega))
  refine s_Po_squaredDistance H wi.1 (Int.lt_trans wi.2.1 (by decide)) wn.1 (Int.lt_trans wn.2.1 (by decide)) ?_
  rw [wi.2.2, wn.2.2]
  repeat (first | refine hJ _ _ _ _ ?_ | refine And.intro (by omega) (fun _ => ?_) | refine And.intro (by omega) ?_ | refine And.intro (fun _ => ?_) (by omega))
  exact hQ
set_option maxRecDepth 20000 in
set_option maxHeartbeats 2000000 in
theorem s_Hs_span {E : AE} {l : Launch} {h : AH} (H : pd_ok h) {m : Nat} {cp : Nat → ge_P} (K : hk h 4 m cp) (hf : nf cp m) {i : Nat} (hi : i < m) {Q : AR} (hQ : Q (some (.inr (.inl (hs_s cp m i)))) h) : am_g E l 37 [.inr (.inr 7), .inl (i : Int)] h Q := by
  have m60 := K.2.1
  have hm : h 4 3 = (m : Int) := K.1
  have hw : ∀ j : Nat, j < m → 0 ≤ h 6 j ∧ h 6 j < 60 ∧ pd_p h (h 6 j) = cp j := K.2.2
  have wi : 0 ≤ h 6 (Int.toNat (i : Int)) ∧ h 6 (Int.toNat (i : Int)) < 60 ∧ pd_p h (h 6 (Int.toNat (i : Int))) = cp i := hw i hi
  have wn := hw (nx m i) (nx_lt hi)
  refine am_met T_Hs_span (by decide) (Nat.le_of_ble_eq_true rfl) (fun J hJ => ?_)
  have loop : ∀ d k : Nat, ∀ (lo hi' : Int) (x y : Option AV), k + d = m → lo = hs_a cp m i k → hi' = hs_z cp m i k → J 8 [some (.inr (.inr 7)), some (.inl (i : Int)), some (.inr (.inl lo)), none, some (.inr (.inl hi')), none, some (.inl (k : Int)), x, y] [] h := by
    intro d
    induction d with
    | zero =>
      intro k lo hi' x y hk ha hz
      have : k = m := by omega
      subst this
      repeat (first | refine hJ _ _ _ _ ?_ | refine And.intro (by omega) (fun _ => ?_) | refine And.intro (by omega) ?_ | refine And.intro (fun _ => ?_) (by omega))
      rw [ha, hz]
      exact hQ
    | succ d ih =>
      intro k lo hi' x y hk ha hz
      have wk : 0 ≤ h 6 (Int.toNat (k : Int)) ∧ h 6 (Int.toNat (k : Int)) < 60 ∧ pd_p h (h 6 (Int.toNat (k : Int))) = cp k := hw k (by omega)
      have bb := (hs_b hf hi k (by omega)).2
      have bx := mp_dot (hf i hi) (hf _ (nx_lt hi)) (hf k (by omega))
      have es := hs_a_s cp m i k
      have ez := hs_z_s cp m i k
      rw [← ha, ← hz] at bb
      rw [← ha] at es
      rw [← hz] at ez
      repeat (first | refine hJ _ _ _ _ ?_ | refine And.intro (by omega) (fun _ => ?_) | refine And.intro (by omega) ?_ | refine And.intro (fun _ => ?_) (by omega))
      refine s_Hu_cornerAfter (.inl rfl) hm m60 hi ?_
      repeat (first | refine hJ _ _ _ _ ?_ | refine And.intro (by omega) (fun _ => ?_) | refine And.intro (by omega) ?_ | refine And.intro (fun _ => ?_) (by omega))
      refine s_Po_dotProduct H wi.1 (Int.lt_trans wi.2.1 (by decide)) wn.1 (Int.lt_trans wn.2.1 (by decide)) wk.1 (Int.lt_trans wk.2.1 (by decide)) ?_
      rw [wi.2.2, wn.2.2, wk.2.2]
      repeat (first | exact ih (k + 1) _ _ _ _ (by omega) es.symm (by rw [ez]; split <;> split <;> omega) | refine hJ _ _ _ _ ?_ | refine And.intro (by omega) (fun _ => ?_) | refine And.intro (by omega) ?_ | refine And.intro (fun _ => ?_) (by omega))
  repeat (first | exact loop m 0 _ _ _ _ (by omega) rfl rfl | refine hJ _ _ _ _ ?_ | refine And.intro (by omega) (fun _ => ?_) | refine And.intro (by omega) ?_ | refine And.intro (fun _ => ?_) (by omega))
set_option maxRecDepth 20000 in
set_option maxHeartbeats 2000000 in
theorem s_Mo_heightOf {E : AE} {l : Launch} {h : AH} {n m : Nat} {pt cp : Nat → ge_P} (P : mp h n pt) (K : mk_h h n m pt cp) (hf : nf cp m) {i : Nat} (hi : i < m) {Q : AR} (hQ : Q (some (.inr (.inl (hs_h cp m i m)))) h) : am_g E l 117 [.inr (.inr 24), .inl (i : Int)] h Q := by
  obtain ⟨hm, m60, hw⟩ := K
  have n60 := P.2.1
  have hnx : nx m i < m := nx_lt hi
  have wi : 0 ≤ h 29 (Int.toNat (i : Int)) ∧ h 29 (Int.toNat (i : Int)) < n ∧ pt (h 29 (Int.toNat (i : Int))).toNat = cp i := hw i hi
  have wn : 0 ≤ h 29 (Int.toNat (nx m i : Int)) ∧ h 29 (Int.toNat (nx m i : Int)) < n ∧ pt (h 29 (Int.toNat (nx m i : Int))).toNat = cp (nx m i) := hw (nx m i) hnx
  refine am_met T_Mo_heightOf (by decide) (Nat.le_of_ble_eq_true rfl) (fun J hJ => ?_)
  have loop : ∀ d k : Nat, ∀ (acc : Int) (x y : Option AV), k + d = m → acc = hs_h cp m i k → J 5 [some (.inr (.inr 24)), some (.inl (i : Int)), some (.inr (.inl acc)), none, some (.inl (k : Int)), x, y] [] h := by
    intro d
    induction d with
    | zero =>
      intro k acc x y hk ha
      have : k = m := by omega
      subst this
      repeat (first | refine hJ _ _ _ _ ?_ | refine And.intro (by omega) (fun _ => ?_) | refine And.intro (by omega) ?_ | refine And.intro (fun _ => ?_) (by omega))
      rw [ha]
      exact hQ
    | succ d ih =>
      intro k acc x y hk ha
      have wk : 0 ≤ h 29 (Int.toNat (k : Int)) ∧ h 29 (Int.toNat (k : Int)) < n ∧ pt (h 29 (Int.toNat (k : Int))).toNat = cp k := hw k (by omega)
      have bb := (hs_b hf hi k (by omega)).1
      have bx := mp_x (hf i hi) (hf _ (nx_lt hi)) (hf k (by omega))
      have es := hs_h_s cp m i k
      rw [← ha] at bb es
      repeat (first | refine hJ _ _ _ _ ?_ | refine And.intro (by omega) (fun _ => ?_) | refine And.intro (by omega) ?_ | refine And.intro (fun _ => ?_) (by omega))
      refine s_Mo_next hm m60 hi ?_
      repeat (first | refine hJ _ _ _ _ ?_ | refine And.intro (by omega) (fun _ => ?_) | refine And.intro (by omega) ?_ | refine And.intro (fun _ => ?_) (by omega))
      refine s_Mo_turnOf P wi.1 wi.2.1 wn.1 wn.2.1 wk.1 wk.2.1 ?_
      rw [wi.2.2, wn.2.2, wk.2.2]
      repeat (first | refine hJ _ _ _ _ ?_ | refine And.intro (by omega) (fun _ => ?_) | refine And.intro (by omega) ?_ | refine And.intro (fun _ => ?_) (by omega))
      refine And.intro (fun hc => ?_) (fun hc => ?_)
      · repeat (first | exact ih (k + 1) _ _ _ (by omega) (by rw [es, if_neg (by omega)]) | refine hJ _ _ _ _ ?_ | refine And.intro (by omega) (fun _ => ?_) | refine And.intro (by omega) ?_ | refine And.intro (fun _ => ?_) (by omega))
      · repeat (first | exact ih (k + 1) _ _ _ (by omega) (by rw [es, if_pos (by omega)]) | refine hJ _ _ _ _ ?_ | refine And.intro (by omega) (fun _ => ?_) | refine And.intro (by omega) ?_ | refine And.intro (fun _ => ?_) (by omega))
  repeat (first | exact loop m 0 _ _ _ (by omega) rfl | refine hJ _ _ _ _ ?_ | refine And.intro (by omega) (fun _ => ?_) | refine And.intro (by omega) ?_ | refine And.intro (fun _ => ?_) (by omega))
set_option maxRecDepth 20000 in
set_option maxHeartbeats 2000000 in
theorem s_Mo_lengthOf {E : AE} {l : Launch} {h : AH} {n m : Nat} {pt cp : Nat → ge_P} (P : mp h n pt) (K : mk_h h n m pt cp) {i : Nat} (hi : i < m) {Q : AR} (hQ : Q (some (.inr (.inl (hs_l cp m i)))) h) : am_g E l 118 [.inr (.inr 24), .inl (i : Int)] h Q := by
  obtain ⟨hm, m60, hw⟩ := K
  have n60 := P.2.1
  have hnx : nx m i < m := nx_lt hi
  have wi : 0 ≤ h 29 (Int.toNat (i : Int)) ∧ h 29 (Int.toNat (i : Int)) < n ∧ pt (h 29 (Int.toNat (i : Int))).toNat = cp i := hw i hi
  have wn : 0 ≤ h 29 (Int.toNat (nx m i : Int)) ∧ h 29 (Int.toNat (nx m i : Int)) < n ∧ pt (h 29 (Int.toNat (nx m i : Int))).toNat = cp (nx m i) := hw (nx m i) hnx
  refine am_met T_Mo_lengthOf (by decide) (Nat.le_of_ble_eq_true rfl) (fun J hJ => ?_)
  repeat (first | refine hJ _ _ _ _ ?_ | refine And.intro (by omega) (fun _ => ?_) | refine And.intro (by omega) ?_ | refine And.intro (fun _ => ?_) (by omega))
  refine s_Mo_next hm m60 hi ?_
  repeat (first | refine hJ _ _ _ _ ?_ | refine And.intro (by omega) (fun _ => ?_) | refine And.intro (by omega) ?_ | refine And.intro (fun _ => ?_) (by omega))
  refine s_Mo_next hm m60 hi ?_
  repeat (first | refine hJ _ _ _ _ ?_ | refine And.intro (by omega) (fun _ => ?_) | refine And.intro (by omega) ?_ | refine And.intro (fun _ => ?_) (by omega))
  refine s_Mo_far P wi.1 wi.2.1 wn.1 wn.2.1 ?_
  rw [wi.2.2, wn.2.2]
  repeat (first | refine hJ _ _ _ _ ?_ | refine And.intro (by omega) (fun _ => ?_) | refine And.intro (by omega) ?_ | refine And.intro (fun _ => ?_) (by omega))
  exact hQ
set_option maxRecDepth 20000 in
set_option maxHeartbeats 2000000 in
theorem s_Mo_spanOf {E : AE} {l : Launch} {h : AH} {n m : Nat} {pt cp : Nat → ge_P} (P : mp h n pt) (K : mk_h h n m pt cp) (hf : nf cp m) {i : Nat} (hi : i < m) {Q : AR} (hQ : Q (some (.inr (.inl (hs_s cp m i)))) h) : am_g E l 119 [.inr (.inr 24), .inl (i : Int)] h Q := by
  obtain ⟨hm, m60, hw⟩ := K
  have n60 := P.2.1
  have hnx : nx m i < m := nx_lt hi
  have wi : 0 ≤ h 29 (Int.toNat (i : Int)) ∧ h 29 (Int.toNat (i : Int)) < n ∧ pt (h 29 (Int.toNat (i : Int))).toNat = cp i := hw i hi
  have wn : 0 ≤ h 29 (Int.toNat (nx m i : Int)) ∧ h 29 (Int.toNat (nx m i : Int)) < n ∧ pt (h 29 (Int.toNat (nx m i : Int))).toNat = cp (nx m i) := hw (nx m i) hnx
  have ri := mp_i P wi.1 wi.2.1
  have rn := mp_i P wn.1 wn.2.1
  rw [wi.2.2] at ri
  rw [wn.2.2] at rn
  refine am_met T_Mo_spanOf (by decide) (Nat.le_of_ble_eq_true rfl) (fun J hJ => ?_)
  have loop : ∀ d k : Nat, ∀ (lo hi' : Int) (x y z : Option AV), k + d = m → lo = hs_a cp m i k → hi' = hs_z cp m i k → J 27 [some (.inr (.inr 24)), some (.inl (i : Int)), some (.inl (h 29 (Int.toNat (i : Int)))), some (.inl (h 29 (Int.toNat (nx m i : Int)))), some (.inr (.inl lo)), none, some (.inr (.inl hi')), none, some (.inl (k : Int)), x, y, z] [] h := by
    intro d
    induction d with
    | zero =>
      intro k lo hi' x y z hk ha hz
      have : k = m := by omega
      subst this
      repeat (first | refine hJ _ _ _ _ ?_ | refine And.intro (by omega) (fun _ => ?_) | refine And.intro (by omega) ?_ | refine And.intro (fun _ => ?_) (by omega))
      rw [ha, hz]
      exact hQ
    | succ d ih =>
      intro k lo hi' x y z hk ha hz
      have wk : 0 ≤ h 29 (Int.toNat (k : Int)) ∧ h 29 (Int.toNat (k : Int)) < n ∧ pt (h 29 (Int.toNat (k : Int))).toNat = cp k := hw k (by omega)
      have rk := mp_i P wk.1 wk.2.1
      rw [wk.2.2] at rk
      have bb := (hs_b hf hi k (by omega)).2
      have bx := mp_dot (hf i hi) (hf _ (nx_lt hi)) (hf k (by omega))
      have es := hs_a_s cp m i k
      have ez := hs_z_s cp m i k
      rw [← ha, ← hz] at bb
      rw [← ha] at es
      rw [← hz] at ez
      have ed : (h 25 (h 29 (Int.toNat (nx m i : Int))).toNat - h 25 (h 29 (Int.toNat (i : Int))).toNat) * (h 25 (h 29 (Int.toNat (k : Int))).toNat - h 25 (h 29 (Int.toNat (i : Int))).toNat) + (h 26 (h 29 (Int.toNat (nx m i : Int))).toNat - h 26 (h 29 (Int.toNat (i : Int))).toNat) * (h 26 (h 29 (Int.toNat (k : Int))).toNat - h 26 (h 29 (Int.toNat (i : Int))).toNat) = ge_dot (cp i) (cp (nx m i)) (cp k) := by
        rw [ri.1, ri.2.1, rn.1, rn.2.1, rk.1, rk.2.1]; rfl
      repeat (first | refine hJ _ _ _ _ ?_ | refine And.intro (by omega) (fun _ => ?_) | refine And.intro (by omega) ?_ | refine And.intro (fun _ => ?_) (by omega))
      rw [ed]
      refine And.intro (fun hc => ?_) (fun hc => ?_)
      · repeat (first | refine hJ _ _ _ _ ?_ | refine And.intro (by omega) (fun _ => ?_) | refine And.intro (by omega) ?_ | refine And.intro (fun _ => ?_) (by omega))
        refine And.intro (fun hd => ?_) (fun hd => ?_)
        · repeat (first | exact ih (k + 1) _ _ _ _ _ (by omega) (by rw [es, if_neg (by omega)]) (by rw [ez, if_neg (by omega)]) | refine hJ _ _ _ _ ?_ | refine And.intro (by omega) (fun _ => ?_) | refine And.intro (by omega) ?_ | refine And.intro (fun _ => ?_) (by omega))
        · repeat (first | exact ih (k + 1) _ _ _ _ _ (by omega) (by rw [es, if_neg (by omega)]) (by rw [ez, if_pos (by omega)]) | refine hJ _ _ _ _ ?_ | refine And.intro (by omega) (fun _ => ?_) | refine And.intro (by omega) ?_ | refine And.intro (fun _ => ?_) (by omega))
      · repeat (first | exact ih (k + 1) _ _ _ _ _ (by omega) (by rw [es, if_pos (by omega)]) (by rw [ez, if_neg (by omega)]) | refine hJ _ _ _ _ ?_ | refine And.intro (by omega) (fun _ => ?_) | refine And.intro (by omega) ?_ | refine And.intro (fun _ => ?_) (by omega))
  repeat (first | refine hJ _ _ _ _ ?_ | refine And.intro (by omega) (fun _ => ?_) | refine And.intro (by omega) ?_ | refine And.intro (fun _ => ?_) (by omega))
  refine s_Mo_next hm m60 hi ?_
  repeat (first | exact loop m 0 _ _ _ _ _ (by omega) rfl rfl | refine hJ _ _ _ _ ?_ | refine And.intro (by omega) (fun _ => ?_) | refine And.intro (by omega) ?_ | refine And.intro (fun _ => ?_) (by omega))
/-- the corners are not far -/
theorem hu_nf {n : Nat} {pt : Nat → ge_P} {h : AH} (P : mp h n pt) : nf (hu_p pt (fun _ => true) n) (hu_m pt (fun _ => true) n) := fun j hj => by
  have h0 := (hu_m_N pt (fun _ => true) n).2 j hj
  have h1 := (hu_w_ok pt (fun _ => true) n j h0).1
  exact P.2.2.2 _ h1
abbrev an_side (pt : Nat → ge_P) (n i : Nat) (w : Int) : Int := if w = 0 then hs_h (hu_p pt (fun _ => true) n) (hu_m pt (fun _ => true) n) i (hu_m pt (fun _ => true) n) else if w = 1 then hs_l (hu_p pt (fun _ => true) n) (hu_m pt (fun _ => true) n) i else hs_s (hu_p pt (fun _ => true) n) (hu_m pt (fun _ => true) n) i
set_option maxRecDepth 20000 in
set_option maxHeartbeats 2000000 in
theorem c_side {E : AE} {l : Launch} {k n m : Nat} {pt : Nat → ge_P} {rt : Nat → Nat} {rg : Nat → ge_P} {h : AH} (C : ic k n m pt rt rg h) (hk : k ≤ 600) (hf : nf (hu_p pt (fun _ => true) n) (hu_m pt (fun _ => true) n)) {i : Nat} (h3 : 3 ≤ hu_m pt (fun _ => true) n) (hi : i < hu_m pt (fun _ => true) n) {w : Int} (w1 : 0 ≤ w) (w2 : w ≤ 2) : am_g E l 46 [.inr (.inr 0), .inl (i : Int), .inl w] h (cq (k + 1) n m pt rt rg h (some (.inr (.inl (an_side pt n i w))))) := by
  have hle := hu_m_le pt (fun _ => true) n
  have p2 := C.1.2.1
  refine am_met T_De_side (by decide) (Nat.le_of_ble_eq_true rfl) (fun J hJ => ?_)
  repeat (first | refine hJ _ _ _ _ ?_ | refine And.intro (by omega) (fun _ => ?_) | refine And.intro (by omega) ?_ | refine And.intro (fun _ => ?_) (by omega))
  refine am_g_mono (ic_hull C hk) ?_
  rintro r h1 ⟨rfl, f, C1, V⟩
  have hC : ∀ v, cq (k + 1) n m pt rt rg h v v h1 := fun v => ⟨rfl, fun c hc => f c (by omega) (by omega) (by omega), ic_mono C1 (by omega)⟩
  have V1 := V.1
  have HK := hv_hk C1 V
  have H1 := C1.1.2.2.1
  rcases (show w = 0 ∨ w = 1 ∨ w = 2 by omega) with rfl | rfl | rfl
  · repeat (first | refine hJ _ _ _ _ ?_ | refine And.intro (by omega) (fun _ => ?_) | refine And.intro (by omega) ?_ | refine And.intro (fun _ => ?_) (by omega))
    refine And.intro (fun _ => ?_) (And.intro (fun g => by omega) (And.intro (fun g => by omega) trivial))
    repeat (first | refine hJ _ _ _ _ ?_ | refine And.intro (by omega) (fun _ => ?_) | refine And.intro (by omega) ?_ | refine And.intro (fun _ => ?_) (by omega))
    refine s_Hs_height H1 HK hf hi ?_
    repeat (first | refine hJ _ _ _ _ ?_ | refine And.intro (by omega) (fun _ => ?_) | refine And.intro (by omega) ?_ | refine And.intro (fun _ => ?_) (by omega))
    exact hC _
  · repeat (first | refine hJ _ _ _ _ ?_ | refine And.intro (by omega) (fun _ => ?_) | refine And.intro (by omega) ?_ | refine And.intro (fun _ => ?_) (by omega))
    refine And.intro (fun _ => ?_) (And.intro (fun g => by omega) trivial)
    repeat (first | refine hJ _ _ _ _ ?_ | refine And.intro (by omega) (fun _ => ?_) | refine And.intro (by omega) ?_ | refine And.intro (fun _ => ?_) (by omega))
    refine s_Hs_length H1 HK hi ?_
    repeat (first | refine hJ _ _ _ _ ?_ | refine And.intro (by omega) (fun _ => ?_) | refine And.intro (by omega) ?_ | refine And.intro (fun _ => ?_) (by omega))
    exact hC _
  · repeat (first | refine hJ _ _ _ _ ?_ | refine And.intro (by omega) (fun _ => ?_) | refine And.intro (by omega) ?_ | refine And.intro (fun _ => ?_) (by omega))
    refine And.intro (fun _ => ?_) trivial
    repeat (first | refine hJ _ _ _ _ ?_ | refine And.intro (by omega) (fun _ => ?_) | refine And.intro (by omega) ?_ | refine And.intro (fun _ => ?_) (by omega))
    refine s_Hs_span H1 HK hf hi ?_
    repeat (first | refine hJ _ _ _ _ ?_ | refine And.intro (by omega) (fun _ => ?_) | refine And.intro (by omega) ?_ | refine And.intro (fun _ => ?_) (by omega))
    exact hC _
set_option maxRecDepth 20000 in
set_option maxHeartbeats 2000000 in
theorem m_side {E : AE} {l : Launch} {n m : Nat} {pt : Nat → ge_P} {rt : Nat → Nat} {h : AH} (R : ir n m pt rt h) {i : Nat} (h3 : 3 ≤ hu_m pt (fun _ => true) n) (hi : i < hu_m pt (fun _ => true) n) {w : Int} (w1 : 0 ≤ w) (w2 : w ≤ 2) : am_g E l 124 [.inr (.inr 24), .inl (i : Int), .inl w] h (rq n m pt rt h 0 (some (.inr (.inl (an_side pt n i w))))) := by
  have hle := hu_m_le pt (fun _ => true) n
  have p2 := R.1.2.1
  have hf := hu_nf R.1
  refine am_met T_Mo_side (by decide) (Nat.le_of_ble_eq_true rfl) (fun J hJ => ?_)
  repeat (first | refine hJ _ _ _ _ ?_ | refine And.intro (by omega) (fun _ => ?_) | refine And.intro (by omega) ?_ | refine And.intro (fun _ => ?_) (by omega))
  refine am_g_mono (ir_hull R) ?_
  rintro r h1 ⟨rfl, f, f24, R1, K, V⟩
  have R2 := ir_t R1 (t := 0)
  have K2 : mk_h (am_up h1 24 0 0) n (hu_m pt (fun _ => true) n) pt (hu_p pt (fun _ => true) n) := mk_cg K rfl (am_up_o (by decide))
  have hC : ∀ v, rq n m pt rt h 0 v v (am_up h1 24 0 0) := fun v => ⟨rfl, fun c hc => by rw [am_up_o (by omega), f c (by omega) (by omega) (by omega)], by simp [am_up], R2⟩
  have K1 := K.1
  have e0 : am_up h1 24 0 0 24 0 = 0 := rfl
  rcases (show w = 0 ∨ w = 1 ∨ w = 2 by omega) with rfl | rfl | rfl
  · repeat (first | refine hJ _ _ _ _ ?_ | refine And.intro (by omega) (fun _ => ?_) | refine And.intro (by omega) ?_ | refine And.intro (fun _ => ?_) (by omega))
    refine s_Mo_heightOf R2.1 K2 hf hi ?_
    repeat (first | refine hJ _ _ _ _ ?_ | refine And.intro (by omega) (fun _ => ?_) | refine And.intro (by omega) ?_ | refine And.intro (fun _ => ?_) (by omega))
    exact hC _
  · repeat (first | refine hJ _ _ _ _ ?_ | refine And.intro (by omega) (fun _ => ?_) | refine And.intro (by omega) ?_ | refine And.intro (fun _ => ?_) (by omega))
    refine s_Mo_lengthOf R2.1 K2 hi ?_
    repeat (first | refine hJ _ _ _ _ ?_ | refine And.intro (by omega) (fun _ => ?_) | refine And.intro (by omega) ?_ | refine And.intro (fun _ => ?_) (by omega))
    exact hC _
  · repeat (first | refine hJ _ _ _ _ ?_ | refine And.intro (by omega) (fun _ => ?_) | refine And.intro (by omega) ?_ | refine And.intro (fun _ => ?_) (by omega))
    refine s_Mo_spanOf R2.1 K2 hf hi ?_
    repeat (first | refine hJ _ _ _ _ ?_ | refine And.intro (by omega) (fun _ => ?_) | refine And.intro (by omega) ?_ | refine And.intro (fun _ => ?_) (by omega))
    exact hC _
set_option maxRecDepth 20000 in
set_option maxHeartbeats 2000000 in
theorem m_side_t {E : AE} {l : Launch} {n m : Nat} {pt : Nat → ge_P} {rt : Nat → Nat} {h : AH} (R : ir n m pt rt h) {i w : Int} (hi : lo_r i) (hw : lo_r w) {t : Int} (ht : (t = 1 ∧ ¬ (3 ≤ (hu_m pt (fun _ => true) n : Int) ∧ 0 ≤ i ∧ i < (hu_m pt (fun _ => true) n : Int))) ∨ (t = 2 ∧ (3 ≤ (hu_m pt (fun _ => true) n : Int) ∧ 0 ≤ i ∧ i < (hu_m pt (fun _ => true) n : Int)) ∧ (w < 0 ∨ 2 < w))) : am_g E l 124 [.inr (.inr 24), .inl i, .inl w] h (rq n m pt rt h t (some (.inr (.inl 0)))) := by
  have hle := hu_m_le pt (fun _ => true) n
  have p2 := R.1.2.1
  refine am_met T_Mo_side (by decide) (Nat.le_of_ble_eq_true rfl) (fun J hJ => ?_)
  repeat (first | refine hJ _ _ _ _ ?_ | refine And.intro (by omega) (fun _ => ?_) | refine And.intro (by omega) ?_ | refine And.intro (fun _ => ?_) (by omega))
  refine am_g_mono (ir_hull R) ?_
  rintro r h1 ⟨rfl, f, f24, R1, K, V⟩
  have R2 := ir_t R1 (t := t)
  have hC : ∀ v, rq n m pt rt h t v v (am_up h1 24 0 t) := fun v => ⟨rfl, fun c hc => by rw [am_up_o (by omega), f c (by omega) (by omega) (by omega)], by simp [am_up], R2⟩
  have K1 := K.1
  have e0 : am_up h1 24 0 t 24 0 = t := rfl
  rcases ht with ⟨rfl, g⟩ | ⟨rfl, g, g2⟩
  · by_cases g3 : (3 : Int) ≤ (hu_m pt (fun _ => true) n : Int)
    · by_cases g4 : i < 0
      · repeat (first | refine hJ _ _ _ _ ?_ | refine And.intro (by omega) (fun _ => ?_) | refine And.intro (by omega) ?_ | refine And.intro (fun _ => ?_) (by omega))
        exact hC _
      · repeat (first | refine hJ _ _ _ _ ?_ | refine And.intro (by omega) (fun _ => ?_) | refine And.intro (by omega) ?_ | refine And.intro (fun _ => ?_) (by omega))
        exact hC _
    · repeat (first | refine hJ _ _ _ _ ?_ | refine And.intro (by omega) (fun _ => ?_) | refine And.intro (by omega) ?_ | refine And.intro (fun _ => ?_) (by omega))
      exact hC _
  · rcases g2 with g2 | g2
    · repeat (first | refine hJ _ _ _ _ ?_ | refine And.intro (by omega) (fun _ => ?_) | refine And.intro (by omega) ?_ | refine And.intro (fun _ => ?_) (by omega))
      exact hC _
    · repeat (first | refine hJ _ _ _ _ ?_ | refine And.intro (by omega) (fun _ => ?_) | refine And.intro (by omega) ?_ | refine And.intro (fun _ => ?_) (by omega))
      exact hC _
theorem o_side {E : AE} {l : Launch} {s : State} (htr : l.stackTraces = false) (h0 : tx_0 s E) {k : Nat} {h : AH} (hk : k ≤ 600) (I : iv k h) : op_side E l s (iv (k + 1)) h := by
  obtain ⟨n, m, pt, rt, rg, C, R⟩ := I
  intro x hx y hy
  have hle := hu_m_le pt (fun _ => true) n
  have p2 := C.1.2.1
  have hf := hu_nf R.1
  by_cases hb : 3 ≤ (hu_m pt (fun _ => true) n : Int) ∧ 0 ≤ x ∧ x < (hu_m pt (fun _ => true) n : Int)
  · by_cases hw : y < 0 ∨ 2 < y
    · refine hp_side_2 h0 (z_De_side_2 h0 htr hy.1 hy.2 hw (am_g_mono (ic_hull C hk) ?_))
      rintro r h1 ⟨rfl, f, C1, V⟩
      have V1 := V.1
      exact ⟨rfl, op_tl R (ic_mono C1 (by omega)) (fun c hc => f c (by omega) (by omega) (by omega)) (by decide) (by decide) (fun h2 R1 => m_side_t R1 hx hy (.inr ⟨rfl, hb, hw⟩)), by omega, by omega, by omega, by omega⟩
    · obtain ⟨i, rfl⟩ : ∃ i : Nat, x = (i : Int) := ⟨x.toNat, by omega⟩
      have b := hs_b hf (i := i) (by omega) _ (Nat.le_refl _)
      have b2 := mp_d (hf i (by omega)) (hf _ (nx_lt (show i < hu_m pt (fun _ => true) n by omega)))
      have b3 : -9223372036854775808 ≤ an_side pt n i y ∧ an_side pt n i y < 9223372036854775808 := by
        unfold an_side hs_l hs_s
        split
        · omega
        · split <;> omega
      exact op_hl R b3.1 b3.2 (fun Q hg => hp_side_0 hg) (c_side C hk hf (by omega) (by omega) (by omega) (by omega)) (fun h1 R1 => m_side R1 (by omega) (by omega) (by omega) (by omega))
  · refine hp_side_1 h0 (z_De_side_1 h0 htr hx.1 hx.2 (am_g_mono (ic_hull C hk) ?_))
    rintro r h1 ⟨rfl, f, C1, V⟩
    have V1 := V.1
    exact ⟨rfl, op_tl R (ic_mono C1 (by omega)) (fun c hc => f c (by omega) (by omega) (by omega)) (by decide) (by decide) (fun h2 R1 => m_side_t R1 hx hy (.inl ⟨rfl, hb⟩)), by omega, by omega, by omega⟩
