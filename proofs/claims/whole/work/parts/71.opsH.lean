/-! calls: triangle and check, the class's side -/
theorem ic_tri {E : AE} {l : Launch} {k n m : Nat} {pt : Nat → ge_P} {rt : Nat → Nat} {rg : Nat → ge_P} {h : AH} (C : ic k n m pt rt rg h) (hk : k ≤ 600) (hro : -3200000000000 ≤ ro rg m ∧ ro rg m ≤ 3200000000000) {b : Int} (hb : (rs rg m ∧ b = 1) ∨ (¬ rs rg m ∧ b = 0)) : am_g E l 85 [.inr (.inr 21), .inl b] h (fun r h1 => r = none ∧ (∀ c, c ≠ 21 → c ≠ 22 → c ≠ 23 → h1 c = h c) ∧ ic k n m pt rt rg h1 ∧ tv m rg h1) := by
  have C0 := C
  have K := ic_rk C
  obtain ⟨P, Rr, v, hh, hl, hc, ht⟩ := C
  have v' := v
  have ht' := ht
  unfold icV at v'
  unfold icT at ht'
  refine s_Tr_refresh P.2.2.1 K hro (by omega) (by omega) (by omega) (by omega) hb (fun e => ?_) (fun ne h' f e1 e2 => ?_)
  · exact ⟨rfl, fun _ _ _ _ => rfl, C0, ht'.2.2 e⟩
  · have f' : ∀ c, c ≠ 21 ∧ c ≠ 22 ∧ c ≠ 23 → h' c = h c := fun c hc => f c hc.1 hc.2.1 hc.2.2
    refine ⟨rfl, f, ⟨icP_cg P (f' _ (by decide)) (f' _ (by decide)) (f' _ (by decide)), icR_cg Rr (f' _ (by decide)) (f' _ (by decide)), icV_cg v (f' _ (by decide)) (f' _ (by decide)), icH_cg hh (f' _ (by decide)) (f' _ (by decide)) (f' _ (by decide)), icL_cg hl (f' _ (by decide)) (f' _ (by decide)) (f' _ (by decide)), icC_cg hc (f' _ (by decide)) (f' _ (by decide)) (f' _ (by decide)), ?_⟩, e2⟩
    unfold icT
    rw [f' 17 (by decide)]
    exact ⟨by omega, by omega, fun _ => e2⟩
/-- the triangles, one after another -/
def cc (m : Nat) (L : List Nat) (T : List Int) (j : Nat) : Int := if j < m - 3 then T.getD j 0 else tr_z L
theorem cc_ok {rg : Nat → ge_P} {m : Nat} (hr : rs rg m) (m40 : m ≤ 40) {L : List Nat} {T : List Int} (W : tr_w rg (tr_s rg m) m (m - 3) L T) : (∀ j, j < m - 2 → 0 ≤ cc m L T j ∧ cc m L T j < 262144 ∧ 0 < ta rg (tr_s rg m) (cc m L T j) ∧ cc m L T j / 4096 < m ∧ cc m L T j / 64 % 64 < m ∧ cc m L T j % 64 < m) ∧ su (fun j => ta rg (tr_s rg m) (cc m L T j)) 0 (m - 2) = tr_s rg m * ro rg m := by
  have h3 := hr.1
  have hl := tr_w_len _ L T W
  obtain ⟨o1, o2, o3⟩ := tr_w_ok hr m40 _ L T (by omega) W
  obtain ⟨z1, z2, z3, z4, z5⟩ := tr_last (tr_s_v rg m) m40 o1 (by omega)
  have e1 : ∀ j, j < m - 3 → cc m L T j = T.getD j 0 := fun j hj => if_pos hj
  have e2 : cc m L T (m - 3) = tr_z L := if_neg (by omega)
  refine ⟨fun j hj => ?_, ?_⟩
  · rcases (show j < m - 3 ∨ j = m - 3 by omega) with q | q
    · rw [e1 j q]; exact o2 j q
    · have ez : tr_z L = 4096 * ((L.getD 0 0 : Nat) : Int) + 64 * ((L.getD 1 0 : Nat) : Int) + ((L.getD 2 0 : Nat) : Int) := rfl
      rw [q, e2]
      refine ⟨by omega, by omega, z2, by omega, by omega, by omega⟩
  · rw [show m - 2 = m - 3 + 1 by omega, su_s (Nat.zero_le _), e2, z1, ← o3, su_congr (g' := fun j => ta rg (tr_s rg m) (T.getD j 0)) (fun j _ hj => by rw [e1 j hj])]
def an_tri (rg : Nat → ge_P) (m : Nat) (x v : Int) : Prop := (¬ (rs rg m ∧ 0 ≤ x ∧ x ≤ (m : Int) - 3) ∧ v = -1) ∨ ((rs rg m ∧ 0 ≤ x ∧ x ≤ (m : Int) - 3) ∧ ∃ L T, tr_w rg (tr_s rg m) m (m - 3) L T ∧ v = cc m L T x.toNat)
set_option maxRecDepth 20000 in
set_option maxHeartbeats 2000000 in
theorem c_triangle {E : AE} {l : Launch} {k n m : Nat} {pt : Nat → ge_P} {rt : Nat → Nat} {rg : Nat → ge_P} {h : AH} (C : ic k n m pt rt rg h) (hk : k ≤ 600) (hro : -3200000000000 ≤ ro rg m ∧ ro rg m ≤ 3200000000000) {x : Int} (hx : lo_r x) : am_g E l 86 [.inr (.inr 0), .inl x] h (fun r h1 => ∃ v, an_tri rg m x v ∧ cq (k + 1) n m pt rt rg h (some (.inl v)) r h1) := by
  have m40 := C.2.1.2.1
  refine am_met T_De_triangle (by decide) (Nat.le_of_ble_eq_true rfl) (fun J hJ => ?_)
  repeat (first | refine hJ _ _ _ _ ?_ | refine And.intro (by omega) (fun _ => ?_) | refine And.intro (by omega) ?_ | refine And.intro (fun _ => ?_) (by omega))
  refine ic_simple C hk (fun hs h1 f C1 => ?_) (fun hs h1 f C1 => ?_)
  · repeat (first | refine hJ _ _ _ _ ?_ | refine And.intro (by omega) (fun _ => ?_) | refine And.intro (by omega) ?_ | refine And.intro (fun _ => ?_) (by omega))
    refine am_g_mono (ic_tri C1 hk hro (.inl ⟨hs, rfl⟩)) ?_
    rintro r h2 ⟨rfl, f2, C2, V⟩
    have hC : ∀ v, cq (k + 1) n m pt rt rg h v v h2 := fun v => ⟨rfl, fun c hc => by rw [f2 c (by omega) (by omega) (by omega)]; exact f c (by omega) (by omega), ic_mono C2 (by omega)⟩
    obtain ⟨L, T, W, e3, e7, e22, e22z⟩ := V.2 hs
    have h3 := hs.1
    repeat (first | refine hJ _ _ _ _ ?_ | refine And.intro (by omega) (fun _ => ?_) | refine And.intro (by omega) ?_ | refine And.intro (fun _ => ?_) (by omega))
    refine And.intro (fun hc => ?_) (fun hc => ?_)
    · repeat (first | refine hJ _ _ _ _ ?_ | refine And.intro (by omega) (fun _ => ?_) | refine And.intro (by omega) ?_ | refine And.intro (fun _ => ?_) (by omega))
      exact ⟨-1, .inl ⟨fun g => by omega, rfl⟩, hC _⟩
    · repeat (first | refine hJ _ _ _ _ ?_ | refine And.intro (by omega) (fun _ => ?_) | refine And.intro (by omega) ?_ | refine And.intro (fun _ => ?_) (by omega))
      refine And.intro (fun hd => ?_) (fun hd => ?_)
      · repeat (first | refine hJ _ _ _ _ ?_ | refine And.intro (by omega) (fun _ => ?_) | refine And.intro (by omega) ?_ | refine And.intro (fun _ => ?_) (by omega))
        exact ⟨-1, .inl ⟨fun g => by omega, rfl⟩, hC _⟩
      · repeat (first | refine hJ _ _ _ _ ?_ | refine And.intro (by omega) (fun _ => ?_) | refine And.intro (by omega) ?_ | refine And.intro (fun _ => ?_) (by omega))
        have e : h2 22 x.toNat = cc m L T x.toNat := by
          unfold cc
          by_cases q : x.toNat < m - 3
          · rw [if_pos q]; exact e22 _ q
          · rw [if_neg q, show x.toNat = m - 3 by omega]; exact e22z
        rw [e]
        exact ⟨_, .inr ⟨⟨hs, hc, by omega⟩, L, T, W, rfl⟩, hC _⟩
  · repeat (first | refine hJ _ _ _ _ ?_ | refine And.intro (by omega) (fun _ => ?_) | refine And.intro (by omega) ?_ | refine And.intro (fun _ => ?_) (by omega))
    refine am_g_mono (ic_tri C1 hk hro (.inr ⟨hs, rfl⟩)) ?_
    rintro r h2 ⟨rfl, f2, C2, V⟩
    have hC : ∀ v, cq (k + 1) n m pt rt rg h v v h2 := fun v => ⟨rfl, fun c hc => by rw [f2 c (by omega) (by omega) (by omega)]; exact f c (by omega) (by omega), ic_mono C2 (by omega)⟩
    have e3 := V.1 hs
    by_cases hneg : x < 0
    · repeat (first | refine hJ _ _ _ _ ?_ | refine And.intro (by omega) (fun _ => ?_) | refine And.intro (by omega) ?_ | refine And.intro (fun _ => ?_) (by omega))
      exact ⟨-1, .inl ⟨fun g => hs g.1, rfl⟩, hC _⟩
    · repeat (first | refine hJ _ _ _ _ ?_ | refine And.intro (by omega) (fun _ => ?_) | refine And.intro (by omega) ?_ | refine And.intro (fun _ => ?_) (by omega))
      exact ⟨-1, .inl ⟨fun g => hs g.1, rfl⟩, hC _⟩
set_option maxRecDepth 20000 in
set_option maxHeartbeats 2000000 in
theorem s_Tr_fill {E : AE} {l : Launch} {h : AH} (H : pd_ok h) {m : Nat} {rg : Nat → ge_P} (K : rk h m rg) (hf : nf rg m) (hr : rs rg m) (V : tv m rg h) {Q : AR} (hQ : Q (some (.inl 1)) h) : am_g E l 89 [.inr (.inr 21)] h Q := by
  have K0 := K
  obtain ⟨hm, m40, hrr⟩ := K
  have h3 := hr.1
  have hs := tr_s_v rg m
  have hsr : -1 ≤ tr_s rg m ∧ tr_s rg m ≤ 1 := by rcases hs with e | e <;> rw [e] <;> decide
  have hro := ro_b m40 hf
  have hsro : -3200000000000 ≤ tr_s rg m * ro rg m ∧ tr_s rg m * ro rg m ≤ 3200000000000 := by
    rcases hs with e | e <;> rw [e] <;> omega
  obtain ⟨L, T, W, e3, e7, e22, e22z⟩ := V.2 hr
  obtain ⟨ok, hsum⟩ := cc_ok hr m40 W
  have e2 : ∀ j, j < m - 2 → h 22 j = cc m L T j := fun j hj => by
    unfold cc
    by_cases q : j < m - 3
    · rw [if_pos q]; exact e22 _ q
    · rw [if_neg q, show j = m - 3 by omega]; exact e22z
  have tb : ∀ j, j < m - 2 → ta rg (tr_s rg m) (cc m L T j) ≤ 80000000000 := fun j hj => by
    have o := ok j hj
    unfold ta
    exact (s_b hs (mp_x (hf _ (by omega)) (hf _ (by omega)) (hf _ (by omega)))).2
  refine am_met T_Tr_fillTheRoute (by decide) (Nat.le_of_ble_eq_true rfl) (fun J hJ => ?_)
  have loop : ∀ d k : Nat, ∀ (acc : Int) (x y z : Option AV), k + d = m - 2 → acc = su (fun j => ta rg (tr_s rg m) (cc m L T j)) 0 k → J 4 [some (.inr (.inr 21)), some (.inr (.inl acc)), none, some (.inl (k : Int)), x, y, z] [] h := by
    intro d
    induction d with
    | zero =>
      intro k acc x y z hk ha
      have ek : k = m - 2 := by omega
      rw [ek, hsum] at ha
      repeat (first | refine hJ _ _ _ _ ?_ | refine And.intro (by omega) (fun _ => ?_) | refine And.intro (by omega) ?_ | refine And.intro (fun _ => ?_) (by omega))
      refine s_Ro_sumRound H K0 ?_
      rw [if_neg (show ¬ m < 3 by omega), e7]
      repeat (first | refine hJ _ _ _ _ ?_ | refine And.intro (by omega) (fun _ => ?_) | refine And.intro (by omega) ?_ | refine And.intro (fun _ => ?_) (by omega))
      exact hQ
    | succ d ih =>
      intro k acc x y z hk ha
      have o := ok k (by omega)
      have t1 := tb k (by omega)
      have ek : h 22 (Int.toNat (k : Int)) = cc m L T k := e2 k (by omega)
      have wa := hrr (cc m L T k / 4096).toNat (by omega)
      have wp := hrr (cc m L T k / 64 % 64).toNat (by omega)
      have wb := hrr (cc m L T k % 64).toNat (by omega)
      have et : tr_s rg m * ge_x (rg (cc m L T k / 4096).toNat) (rg (cc m L T k / 64 % 64).toNat) (rg (cc m L T k % 64).toNat) = ta rg (tr_s rg m) (cc m L T k) := rfl
      rw [← ek] at wa wp wb et o t1
      repeat (first | refine hJ _ _ _ _ ?_ | refine And.intro (by omega) (fun _ => ?_) | refine And.intro (by omega) ?_ | refine And.intro (fun _ => ?_) (by omega))
      refine s_Tr_turnInwards H hs e7 wa.1 wa.2.1 wp.1 wp.2.1 wb.1 wb.2.1 ?_
      rw [wa.2.2, wp.2.2, wb.2.2, et]
      repeat (first | refine hJ _ _ _ _ ?_ | refine And.intro (by omega) (fun _ => ?_) | refine And.intro (by omega) ?_ | refine And.intro (fun _ => ?_) (by omega))
      refine s_Tr_turnInwards H hs e7 wa.1 wa.2.1 wp.1 wp.2.1 wb.1 wb.2.1 ?_
      rw [wa.2.2, wp.2.2, wb.2.2, et]
      repeat (first | exact ih (k + 1) _ _ _ _ (by omega) (by rw [su_s (Nat.zero_le k), ← ek]; omega) | refine hJ _ _ _ _ ?_ | refine And.intro (by omega) (fun _ => ?_) | refine And.intro (by omega) ?_ | refine And.intro (fun _ => ?_) (by omega))
  repeat (first | exact loop (m - 2) 0 _ _ _ _ (by omega) (by rw [su_0 (Nat.le_refl _)]) | refine hJ _ _ _ _ ?_ | refine And.intro (by omega) (fun _ => ?_) | refine And.intro (by omega) ?_ | refine And.intro (fun _ => ?_) (by omega))
set_option maxRecDepth 20000 in
set_option maxHeartbeats 2000000 in
theorem c_check {E : AE} {l : Launch} {k n m : Nat} {pt : Nat → ge_P} {rt : Nat → Nat} {rg : Nat → ge_P} {h : AH} (C : ic k n m pt rt rg h) (hk : k ≤ 600) (hf : nf rg m) (harea : -9223372036854775808 ≤ an_area pt n ∧ an_area pt n < 9223372036854775808) : am_g E l 90 [.inr (.inr 0)] h (cq (k + 1) n m pt rt rg h (some (.inl 1))) := by
  have m40 := C.2.1.2.1
  have hro := ro_b m40 hf
  refine am_met T_De_check (by decide) (Nat.le_of_ble_eq_true rfl) (fun J hJ => ?_)
  repeat (first | refine hJ _ _ _ _ ?_ | refine And.intro (by omega) (fun _ => ?_) | refine And.intro (by omega) ?_ | refine And.intro (fun _ => ?_) (by omega))
  refine am_g_mono (ic_hull C hk) ?_
  rintro r h1 ⟨rfl, f, C1, V⟩
  have p1 := C1.1.1
  have p2 := C1.1.2.1
  have H1 := C1.1.2.2.1
  have HK := hv_hk C1 V
  have hC1 : ∀ v, cq (k + 1) n m pt rt rg h v v h1 := fun v => ⟨rfl, fun c hc => f c (by omega) (by omega) (by omega), ic_mono C1 (by omega)⟩
  have hall : ∀ p, p < n → 0 ≤ hu_at (hu_p pt (fun _ => true) n) (hu_m pt (fun _ => true) n) (pd_q h1 p) := fun p hp => by
    rw [C1.1.2.2.2 p hp]
    exact hu_a_ge (mk := fun _ => true) hp rfl (hu_m_pos hp rfl)
  repeat (first | refine hJ _ _ _ _ ?_ | refine And.intro (by omega) (fun _ => ?_) | refine And.intro (by omega) ?_ | refine And.intro (fun _ => ?_) (by omega))
  refine s_Hu_holdsAll H1 HK p1 p2 hall ?_
  repeat (first | refine hJ _ _ _ _ ?_ | refine And.intro (by omega) (fun _ => ?_) | refine And.intro (by omega) ?_ | refine And.intro (fun _ => ?_) (by omega))
  refine s_Hu_twiceArea H1 HK ?_
  rw [ge_fan_eq]
  repeat (first | refine hJ _ _ _ _ ?_ | refine And.intro (by omega) (fun _ => ?_) | refine And.intro (by omega) ?_ | refine And.intro (fun _ => ?_) (by omega))
  refine s_Hu_sumRound H1 HK ?_
  have ha : -9223372036854775808 ≤ su (fun i => ge_r (hu_p pt (fun _ => true) n i) (hu_p pt (fun _ => true) n (nx (hu_m pt (fun _ => true) n) i))) 0 (hu_m pt (fun _ => true) n) ∧ su (fun i => ge_r (hu_p pt (fun _ => true) n i) (hu_p pt (fun _ => true) n (nx (hu_m pt (fun _ => true) n) i))) 0 (hu_m pt (fun _ => true) n) < 9223372036854775808 := harea
  repeat (first | refine hJ _ _ _ _ ?_ | refine And.intro (by omega) (fun _ => ?_) | refine And.intro (by omega) ?_ | refine And.intro (fun _ => ?_) (by omega))
  refine ic_simple C1 hk (fun hs h2 f2 C2 => ?_) (fun hs h2 f2 C2 => ?_)
  · repeat (first | refine hJ _ _ _ _ ?_ | refine And.intro (by omega) (fun _ => ?_) | refine And.intro (by omega) ?_ | refine And.intro (fun _ => ?_) (by omega))
    refine am_g_mono (ic_tri C2 hk hro (.inl ⟨hs, rfl⟩)) ?_
    rintro r h3 ⟨rfl, f3, C3, V3⟩
    have hC3 : ∀ v, cq (k + 1) n m pt rt rg h v v h3 := fun v => ⟨rfl, fun c hc => by rw [f3 c (by omega) (by omega) (by omega), f2 c (by omega) (by omega)]; exact f c (by omega) (by omega) (by omega), ic_mono C3 (by omega)⟩
    repeat (first | refine hJ _ _ _ _ ?_ | refine And.intro (by omega) (fun _ => ?_) | refine And.intro (by omega) ?_ | refine And.intro (fun _ => ?_) (by omega))
    refine s_Tr_fill C3.1.2.2.1 (ic_rk C3) hf hs V3 ?_
    repeat (first | refine hJ _ _ _ _ ?_ | refine And.intro (by omega) (fun _ => ?_) | refine And.intro (by omega) ?_ | refine And.intro (fun _ => ?_) (by omega))
    exact hC3 _
  · have hC2 : ∀ v, cq (k + 1) n m pt rt rg h v v h2 := fun v => ⟨rfl, fun c hc => by rw [f2 c (by omega) (by omega)]; exact f c (by omega) (by omega) (by omega), ic_mono C2 (by omega)⟩
    repeat (first | refine hJ _ _ _ _ ?_ | refine And.intro (by omega) (fun _ => ?_) | refine And.intro (by omega) ?_ | refine And.intro (fun _ => ?_) (by omega))
    exact hC2 _
set_option maxRecDepth 20000 in
set_option maxHeartbeats 2000000 in
theorem m_check {E : AE} {l : Launch} {n m : Nat} {pt : Nat → ge_P} {rt : Nat → Nat} {h : AH} (R : ir n m pt rt h) : am_g E l 148 [.inr (.inr 24)] h (rq n m pt rt h 0 (some (.inl 1))) := by
  have hQ : ∀ v, rq n m pt rt h 0 v v (am_up h 24 0 0) := fun v => rq_t R
  refine am_met T_Mo_check (by decide) (Nat.le_of_ble_eq_true rfl) (fun J hJ => ?_)
  repeat (first | refine hJ _ _ _ _ ?_ | refine And.intro (by omega) (fun _ => ?_) | refine And.intro (by omega) ?_ | refine And.intro (fun _ => ?_) (by omega))
  exact hQ _
theorem area_b {n : Nat} {pt : Nat → ge_P} {h : AH} (P : mp h n pt) : -9223372036854775808 ≤ an_area pt n ∧ an_area pt n < 9223372036854775808 := by
  have n60 := P.2.1
  have hle := hu_m_le pt (fun _ => true) n
  have rp := hu_nf P
  have b : -80000000000 * (hu_m pt (fun _ => true) n : Int) ≤ an_area pt n ∧ an_area pt n ≤ 80000000000 * (hu_m pt (fun _ => true) n : Int) := su_b (by decide) (by decide) (fun j _ hj => ge_r_b (rp j hj) (rp _ (nx_lt hj)))
  omega
theorem o_check {E : AE} {l : Launch} {s : State} {k : Nat} {h : AH} (hk : k ≤ 600) (I : iv k h) : op_check E l s (iv (k + 1)) h := by
  obtain ⟨n, m, pt, rt, rg, C, R⟩ := I
  have D := ic_rr C
  exact op_i R (by decide) (by decide) (c_check C hk (fun j hj => rr_p R D hj) (area_b R.1)) (fun h1 R1 => m_check R1)
