/-! calls: crossings, crossing, simple, round -/
theorem ic_cross {E : AE} {l : Launch} {k n m : Nat} {pt : Nat → ge_P} {rt : Nat → Nat} {rg : Nat → ge_P} {h : AH} (C : ic k n m pt rt rg h) (hk : k ≤ 600) : am_g E l 65 [.inr (.inr 19)] h (fun r h1 => r = none ∧ (∀ c, c ≠ 19 → c ≠ 20 → h1 c = h c) ∧ ic k n m pt rt rg h1 ∧ cv m rg h1 ∧ h1 19 5 = h1 17 3) := by
  have C0 := C
  have K := ic_rk C
  obtain ⟨P, Rr, v, hh, hl, hc, ht⟩ := C
  have v' := v
  have hc' := hc
  unfold icV at v'
  unfold icC at hc'
  refine s_Cr_refresh P.2.2.1 K (by omega) (by omega) (by omega) (by omega) (fun e => ?_) (fun ne h' f e1 e2 => ?_)
  · exact ⟨rfl, fun _ _ _ => rfl, C0, hc'.2.2 e, e⟩
  · have f' : ∀ c, c ≠ 19 ∧ c ≠ 20 → h' c = h c := fun c hc => f c hc.1 hc.2
    refine ⟨rfl, f, ⟨icP_cg P (f' _ (by decide)) (f' _ (by decide)) (f' _ (by decide)), icR_cg Rr (f' _ (by decide)) (f' _ (by decide)), icV_cg v (f' _ (by decide)) (f' _ (by decide)), icH_cg hh (f' _ (by decide)) (f' _ (by decide)) (f' _ (by decide)), icL_cg hl (f' _ (by decide)) (f' _ (by decide)) (f' _ (by decide)), ?_, icT_cg ht (f' _ (by decide)) (f' _ (by decide)) (f' _ (by decide))⟩, e2, by rw [e1, f' 17 (by decide)]⟩
    unfold icC
    rw [f' 17 (by decide)]
    exact ⟨by omega, by omega, fun _ => e2⟩
set_option maxRecDepth 20000 in
set_option maxHeartbeats 2000000 in
theorem c_crossings {E : AE} {l : Launch} {k n m : Nat} {pt : Nat → ge_P} {rt : Nat → Nat} {rg : Nat → ge_P} {h : AH} (C : ic k n m pt rt rg h) (hk : k ≤ 600) : am_g E l 66 [.inr (.inr 0)] h (cq (k + 1) n m pt rt rg h (some (.inl ((cr_l rg m).length : Int)))) := by
  refine am_met T_De_crossings (by decide) (Nat.le_of_ble_eq_true rfl) (fun J hJ => ?_)
  repeat (first | refine hJ _ _ _ _ ?_ | refine And.intro (by omega) (fun _ => ?_) | refine And.intro (by omega) ?_ | refine And.intro (fun _ => ?_) (by omega))
  refine am_g_mono (ic_cross C hk) ?_
  rintro r h1 ⟨rfl, f, C1, V, -⟩
  have hC : ∀ v, cq (k + 1) n m pt rt rg h v v h1 := fun v => ⟨rfl, fun c hc => f c (by omega) (by omega), ic_mono C1 (by omega)⟩
  repeat (first | refine hJ _ _ _ _ ?_ | refine And.intro (by omega) (fun _ => ?_) | refine And.intro (by omega) ?_ | refine And.intro (fun _ => ?_) (by omega))
  rw [← V.1]
  exact hC _
theorem o_crossings {E : AE} {l : Launch} {s : State} {k : Nat} {h : AH} (hk : k ≤ 600) (I : iv k h) : op_crossings E l s (iv (k + 1)) h := by
  obtain ⟨n, m, pt, rt, rg, C, R⟩ := I
  have D := ic_rr C
  have hl := cr_len_le (rg := rg) D.1
  exact op_i R (by omega) (by omega) (c_crossings C hk) (fun h1 R1 => m_crossings R1 D)
set_option maxRecDepth 20000 in
set_option maxHeartbeats 2000000 in
theorem c_crossing {E : AE} {l : Launch} {k n m : Nat} {pt : Nat → ge_P} {rt : Nat → Nat} {rg : Nat → ge_P} {h : AH} (C : ic k n m pt rt rg h) (hk : k ≤ 600) {x : Int} (hx : lo_r x) : am_g E l 67 [.inr (.inr 0), .inl x] h (cq (k + 1) n m pt rt rg h (some (.inl (an_crossing rg m x)))) := by
  have D := ic_rr C
  have hl := cr_len_le (rg := rg) D.1
  refine am_met T_De_crossing (by decide) (Nat.le_of_ble_eq_true rfl) (fun J hJ => ?_)
  repeat (first | refine hJ _ _ _ _ ?_ | refine And.intro (by omega) (fun _ => ?_) | refine And.intro (by omega) ?_ | refine And.intro (fun _ => ?_) (by omega))
  refine am_g_mono (ic_cross C hk) ?_
  rintro r h1 ⟨rfl, f, C1, V, -⟩
  have hC : ∀ v, cq (k + 1) n m pt rt rg h v v h1 := fun v => ⟨rfl, fun c hc => f c (by omega) (by omega), ic_mono C1 (by omega)⟩
  have V1 := V.1
  repeat (first | refine hJ _ _ _ _ ?_ | refine And.intro (by omega) (fun _ => ?_) | refine And.intro (by omega) ?_ | refine And.intro (fun _ => ?_) (by omega))
  refine And.intro (fun hc => ?_) (fun hc => ?_)
  · repeat (first | refine hJ _ _ _ _ ?_ | refine And.intro (by omega) (fun _ => ?_) | refine And.intro (by omega) ?_ | refine And.intro (fun _ => ?_) (by omega))
    have e : an_crossing rg m x = -1 := if_neg (by omega)
    rw [e]
    exact hC _
  · repeat (first | refine hJ _ _ _ _ ?_ | refine And.intro (by omega) (fun _ => ?_) | refine And.intro (by omega) ?_ | refine And.intro (fun _ => ?_) (by omega))
    refine And.intro (fun hd => ?_) (fun hd => ?_)
    · repeat (first | refine hJ _ _ _ _ ?_ | refine And.intro (by omega) (fun _ => ?_) | refine And.intro (by omega) ?_ | refine And.intro (fun _ => ?_) (by omega))
      have e : an_crossing rg m x = -1 := if_neg (by omega)
      rw [e]
      exact hC _
    · repeat (first | refine hJ _ _ _ _ ?_ | refine And.intro (by omega) (fun _ => ?_) | refine And.intro (by omega) ?_ | refine And.intro (fun _ => ?_) (by omega))
      have e : an_crossing rg m x = (cr_l rg m).getD x.toNat 0 := if_pos (by omega)
      rw [e, ← V.2.1 x.toNat (by omega)]
      exact hC _
theorem o_crossing {E : AE} {l : Launch} {s : State} {k : Nat} {h : AH} (hk : k ≤ 600) (I : iv k h) : op_crossing E l s (iv (k + 1)) h := by
  obtain ⟨n, m, pt, rt, rg, C, R⟩ := I
  intro x hx
  have D := ic_rr C
  have b : -2147483648 ≤ an_crossing rg m x ∧ an_crossing rg m x < 2147483648 := by
    unfold an_crossing
    split
    · rename_i g
      have hm := cr_mem (rg := rg) D.1 ((cr_l rg m).getD x.toNat 0) (by
        rw [List.getD_eq_getElem?_getD, List.getElem?_eq_getElem (show x.toNat < (cr_l rg m).length by omega)]
        exact List.getElem_mem _)
      omega
    · omega
  exact op_i R b.1 b.2 (c_crossing C hk hx) (fun h1 R1 => m_crossing R1 D hx)
set_option maxRecDepth 20000 in
set_option maxHeartbeats 2000000 in
theorem ic_simple {E : AE} {l : Launch} {k n m : Nat} {pt : Nat → ge_P} {rt : Nat → Nat} {rg : Nat → ge_P} {h : AH} (C : ic k n m pt rt rg h) (hk : k ≤ 600) {Q : AR} (h1 : rs rg m → ∀ h1 : AH, (∀ c, c ≠ 19 → c ≠ 20 → h1 c = h c) → ic k n m pt rt rg h1 → Q (some (.inl 1)) h1) (h0 : ¬ rs rg m → ∀ h1 : AH, (∀ c, c ≠ 19 → c ≠ 20 → h1 c = h c) → ic k n m pt rt rg h1 → Q (some (.inl 0)) h1) : am_g E l 68 [.inr (.inr 0)] h Q := by
  refine am_met T_De_isRouteSimple (by decide) (Nat.le_of_ble_eq_true rfl) (fun J hJ => ?_)
  repeat (first | refine hJ _ _ _ _ ?_ | refine And.intro (by omega) (fun _ => ?_) | refine And.intro (by omega) ?_ | refine And.intro (fun _ => ?_) (by omega))
  refine am_g_mono (ic_cross C hk) ?_
  rintro r g ⟨rfl, f, C1, V, -⟩
  rcases V.2.2 with ⟨hs, e⟩ | ⟨hs, e⟩
  · repeat (first | refine hJ _ _ _ _ ?_ | refine And.intro (by omega) (fun _ => ?_) | refine And.intro (by omega) ?_ | refine And.intro (fun _ => ?_) (by omega))
    rw [e]
    exact h1 hs g f C1
  · repeat (first | refine hJ _ _ _ _ ?_ | refine And.intro (by omega) (fun _ => ?_) | refine And.intro (by omega) ?_ | refine And.intro (fun _ => ?_) (by omega))
    rw [e]
    exact h0 hs g f C1
def an_simple (rg : Nat → ge_P) (m : Nat) (v : Int) : Prop := (rs rg m ∧ v = 1) ∨ (¬ rs rg m ∧ v = 0)
set_option maxRecDepth 20000 in
set_option maxHeartbeats 2000000 in
theorem c_simple {E : AE} {l : Launch} {k n m : Nat} {pt : Nat → ge_P} {rt : Nat → Nat} {rg : Nat → ge_P} {h : AH} (C : ic k n m pt rt rg h) (hk : k ≤ 600) : am_g E l 69 [.inr (.inr 0)] h (fun r h1 => ∃ v, an_simple rg m v ∧ cq (k + 1) n m pt rt rg h (some (.inl v)) r h1) := by
  refine am_met T_De_simple (by decide) (Nat.le_of_ble_eq_true rfl) (fun J hJ => ?_)
  repeat (first | refine hJ _ _ _ _ ?_ | refine And.intro (by omega) (fun _ => ?_) | refine And.intro (by omega) ?_ | refine And.intro (fun _ => ?_) (by omega))
  refine ic_simple C hk (fun hs h1 f C1 => ?_) (fun hs h1 f C1 => ?_)
  · repeat (first | refine hJ _ _ _ _ ?_ | refine And.intro (by omega) (fun _ => ?_) | refine And.intro (by omega) ?_ | refine And.intro (fun _ => ?_) (by omega))
    exact ⟨1, .inl ⟨hs, rfl⟩, rfl, fun c hc => f c (by omega) (by omega), ic_mono C1 (by omega)⟩
  · repeat (first | refine hJ _ _ _ _ ?_ | refine And.intro (by omega) (fun _ => ?_) | refine And.intro (by omega) ?_ | refine And.intro (fun _ => ?_) (by omega))
    exact ⟨0, .inr ⟨hs, rfl⟩, rfl, fun c hc => f c (by omega) (by omega), ic_mono C1 (by omega)⟩
set_option maxRecDepth 20000 in
set_option maxHeartbeats 2000000 in
theorem m_simple {E : AE} {l : Launch} {n m : Nat} {pt : Nat → ge_P} {rt : Nat → Nat} {rg : Nat → ge_P} {h : AH} (R : ir n m pt rt h) (D : rr n m pt rt rg) {v : Int} (hv : an_simple rg m v) : am_g E l 141 [.inr (.inr 24)] h (rq n m pt rt h 0 (some (.inl v))) := by
  have hQ : ∀ v, rq n m pt rt h 0 v v (am_up h 24 0 0) := fun v => rq_t R
  have R0 := ir_t R (t := 0)
  refine am_met T_Mo_simple (by decide) (Nat.le_of_ble_eq_true rfl) (fun J hJ => ?_)
  repeat (first | refine hJ _ _ _ _ ?_ | refine And.intro (by omega) (fun _ => ?_) | refine And.intro (by omega) ?_ | refine And.intro (fun _ => ?_) (by omega))
  refine s_Mo_isSimple R0.1 (ir_mr R0 D) (fun hs => ?_) (fun hs => ?_)
  · repeat (first | refine hJ _ _ _ _ ?_ | refine And.intro (by omega) (fun _ => ?_) | refine And.intro (by omega) ?_ | refine And.intro (fun _ => ?_) (by omega))
    rcases hv with ⟨-, rfl⟩ | ⟨g, -⟩
    · exact hQ _
    · exact absurd hs g
  · repeat (first | refine hJ _ _ _ _ ?_ | refine And.intro (by omega) (fun _ => ?_) | refine And.intro (by omega) ?_ | refine And.intro (fun _ => ?_) (by omega))
    rcases hv with ⟨g, -⟩ | ⟨-, rfl⟩
    · exact absurd g hs
    · exact hQ _
theorem o_simple {E : AE} {l : Launch} {s : State} {k : Nat} {h : AH} (hk : k ≤ 600) (I : iv k h) : op_simple E l s (iv (k + 1)) h := by
  obtain ⟨n, m, pt, rt, rg, C, R⟩ := I
  have D := ic_rr C
  refine op_p (P := an_simple rg m) R (fun v hv => ?_) (c_simple C hk) (fun v hv h1 R1 => m_simple R1 D hv)
  rcases hv with ⟨-, rfl⟩ | ⟨-, rfl⟩ <;> decide
abbrev an_round (rg : Nat → ge_P) (m : Nat) : Int := if m < 3 then 0 else ro rg m
set_option maxRecDepth 20000 in
set_option maxHeartbeats 2000000 in
theorem c_round {E : AE} {l : Launch} {k n m : Nat} {pt : Nat → ge_P} {rt : Nat → Nat} {rg : Nat → ge_P} {h : AH} (C : ic k n m pt rt rg h) : am_g E l 72 [.inr (.inr 0)] h (cq (k + 1) n m pt rt rg h (some (.inr (.inl (an_round rg m))))) := by
  have hC : ∀ v, cq (k + 1) n m pt rt rg h v v h := fun v => ⟨rfl, fun _ _ => rfl, ic_mono C (by omega)⟩
  refine am_met T_De_round (by decide) (Nat.le_of_ble_eq_true rfl) (fun J hJ => ?_)
  repeat (first | refine hJ _ _ _ _ ?_ | refine And.intro (by omega) (fun _ => ?_) | refine And.intro (by omega) ?_ | refine And.intro (fun _ => ?_) (by omega))
  refine s_Ro_sumRound C.1.2.2.1 (ic_rk C) ?_
  repeat (first | refine hJ _ _ _ _ ?_ | refine And.intro (by omega) (fun _ => ?_) | refine And.intro (by omega) ?_ | refine And.intro (fun _ => ?_) (by omega))
  exact hC _
set_option maxRecDepth 20000 in
set_option maxHeartbeats 2000000 in
theorem m_round {E : AE} {l : Launch} {n m : Nat} {pt : Nat → ge_P} {rt : Nat → Nat} {rg : Nat → ge_P} {h : AH} (R : ir n m pt rt h) (D : rr n m pt rt rg) : am_g E l 143 [.inr (.inr 24)] h (rq n m pt rt h 0 (some (.inr (.inl (an_round rg m))))) := by
  have hQ : ∀ v, rq n m pt rt h 0 v v (am_up h 24 0 0) := fun v => rq_t R
  have R0 := ir_t R (t := 0)
  have hm := R0.2.1
  have m40 := D.1
  refine am_met T_Mo_round (by decide) (Nat.le_of_ble_eq_true rfl) (fun J hJ => ?_)
  by_cases h3 : m < 3
  · repeat (first | refine hJ _ _ _ _ ?_ | refine And.intro (by omega) (fun _ => ?_) | refine And.intro (by omega) ?_ | refine And.intro (fun _ => ?_) (by omega))
    have e : an_round rg m = 0 := if_pos h3
    rw [e]
    exact hQ _
  · repeat (first | refine hJ _ _ _ _ ?_ | refine And.intro (by omega) (fun _ => ?_) | refine And.intro (by omega) ?_ | refine And.intro (fun _ => ?_) (by omega))
    refine s_Mo_roundOf R0.1 (ir_mr R0 D) (by omega) ?_
    repeat (first | refine hJ _ _ _ _ ?_ | refine And.intro (by omega) (fun _ => ?_) | refine And.intro (by omega) ?_ | refine And.intro (fun _ => ?_) (by omega))
    have e : an_round rg m = ro rg m := if_neg h3
    rw [e]
    exact hQ _
theorem rr_p {n m : Nat} {pt : Nat → ge_P} {rt : Nat → Nat} {rg : Nat → ge_P} {h : AH} (R : ir n m pt rt h) (D : rr n m pt rt rg) {j : Nat} (hj : j < m) : -100000 ≤ (rg j).1 ∧ (rg j).1 ≤ 100000 ∧ -100000 ≤ (rg j).2 ∧ (rg j).2 ≤ 100000 := by
  have b := D.2 j hj
  rw [b.2]
  exact R.1.2.2.2 _ b.1
theorem ge_r_b {a b : ge_P} (r1 : -100000 ≤ a.1 ∧ a.1 ≤ 100000 ∧ -100000 ≤ a.2 ∧ a.2 ≤ 100000) (r2 : -100000 ≤ b.1 ∧ b.1 ≤ 100000 ∧ -100000 ≤ b.2 ∧ b.2 ≤ 100000) : -80000000000 ≤ ge_r a b ∧ ge_r a b ≤ 80000000000 := by
  have m1 := pd_mul r1.1 r1.2.1 (show -100000 ≤ (0 : Int) by decide) (by decide) r2.2.2.1 r2.2.2.2 (show -100000 ≤ (0 : Int) by decide) (by decide)
  have m2 := pd_mul r2.1 r2.2.1 (show -100000 ≤ (0 : Int) by decide) (by decide) r1.2.2.1 r1.2.2.2 (show -100000 ≤ (0 : Int) by decide) (by decide)
  simp only [Int.sub_zero] at m1 m2
  unfold ge_r
  omega
theorem ro_b {m : Nat} {rg : Nat → ge_P} (hm : m ≤ 40) (hr : ∀ j, j < m → -100000 ≤ (rg j).1 ∧ (rg j).1 ≤ 100000 ∧ -100000 ≤ (rg j).2 ∧ (rg j).2 ≤ 100000) : -3200000000000 ≤ ro rg m ∧ ro rg m ≤ 3200000000000 := by
  have b : -80000000000 * (m : Int) ≤ ro rg m ∧ ro rg m ≤ 80000000000 * (m : Int) := su_b (by decide) (by decide) (fun j _ hj => ge_r_b (hr j hj) (hr _ (nx_lt hj)))
  omega
theorem o_round {E : AE} {l : Launch} {s : State} {k : Nat} {h : AH} (I : iv k h) : op_round E l s (iv (k + 1)) h := by
  obtain ⟨n, m, pt, rt, rg, C, R⟩ := I
  have D := ic_rr C
  have b := ro_b (rg := rg) D.1 (fun j hj => rr_p R D hj)
  have b2 : -9223372036854775808 ≤ an_round rg m ∧ an_round rg m < 9223372036854775808 := by
    unfold an_round
    split <;> omega
  exact op_w R b2.1 b2.2 (c_round C) (fun h1 R1 => m_round R1 D)
