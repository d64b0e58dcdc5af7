/-! calls: layer, count, where -/
def ly_f (pt : Nat → ge_P) (n : Nat) : Nat → Nat
  | 0 => 0
  | k + 1 => if ly_c pt n (ly_f pt n k) = 0 then ly_f pt n k else ly_f pt n k + 1
def ly_n (pt : Nat → ge_P) (n : Nat) : Nat := ly_f pt n n
theorem ly_f_ok (pt : Nat → ge_P) (n : Nat) : ∀ k, (∀ j, j < ly_f pt n k → 0 < ly_c pt n j) ∧ (ly_c pt n (ly_f pt n k) = 0 ∨ ly_f pt n k = k) := by
  intro k
  induction k with
  | zero => exact ⟨fun j hj => absurd hj (Nat.not_lt_zero _), .inr rfl⟩
  | succ k ih =>
    have e : ly_f pt n (k + 1) = if ly_c pt n (ly_f pt n k) = 0 then ly_f pt n k else ly_f pt n k + 1 := rfl
    by_cases h : ly_c pt n (ly_f pt n k) = 0
    · rw [e, if_pos h]
      exact ⟨ih.1, .inl h⟩
    · rw [e, if_neg h]
      refine ⟨fun j hj => ?_, .inr ?_⟩
      · rcases (show j < ly_f pt n k ∨ j = ly_f pt n k by omega) with g | g
        · exact ih.1 j g
        · subst g
          have := ly_c_b pt n (ly_f pt n k)
          omega
      · rcases ih.2 with g | g
        · exact absurd g h
        · omega
theorem ly_n_N (pt : Nat → ge_P) (n : Nat) : ly_N pt n (ly_n pt n) := by
  have h := ly_f_ok pt n n
  refine ⟨?_, h.1⟩
  have hb := ly_c_b pt n (ly_n pt n)
  have hle := ly_c_le (ly_n pt n) h.1
  rcases h.2 with g | g
  · exact g
  · have e : ly_n pt n = n := g
    rw [e] at hle hb ⊢
    omega
theorem ly_k_congr {pt pt' : Nat → ge_P} {n : Nat} (hp : ∀ i, i < n → pt i = pt' i) : ∀ s i, i < n → ly_k pt n s i = ly_k pt' n s i := by
  intro s
  induction s with
  | zero => intro i _; rfl
  | succ s ih =>
    intro i hi
    show (ly_k pt n s i && !decide (hu_a pt (ly_k pt n s) n (pt i) = 0)) = (ly_k pt' n s i && !decide (hu_a pt' (ly_k pt' n s) n (pt' i) = 0))
    rw [ih i hi, hp i hi, hu_a_congr hp ih]
theorem ly_c_congr {pt pt' : Nat → ge_P} {n : Nat} (hp : ∀ i, i < n → pt i = pt' i) (s : Nat) : ly_c pt n s = ly_c pt' n s :=
  su_congr (fun j _ hj => by rw [ly_k_congr hp s j hj])
theorem ly_N_congr {pt pt' : Nat → ge_P} {n s : Nat} (hp : ∀ i, i < n → pt i = pt' i) (h : ly_N pt n s) : ly_N pt' n s := by
  refine ⟨?_, fun s' hs => ?_⟩
  · rw [← ly_c_congr hp]; exact h.1
  · rw [← ly_c_congr hp]; exact h.2 s' hs
theorem ly_l_congr {pt pt' : Nat → ge_P} {n : Nat} (hp : ∀ i, i < n → pt i = pt' i) (f0 : Nat → Int) : ∀ s i, i < n → ly_l pt n f0 s i = ly_l pt' n f0 s i := by
  intro s
  induction s with
  | zero => intro i _; rfl
  | succ s ih =>
    intro i hi
    have e0 : ly_l pt n f0 (s + 1) i = if ly_g pt n s i then (s : Int) else ly_l pt n f0 s i := rfl
    have e1 : ly_l pt' n f0 (s + 1) i = if ly_g pt' n s i then (s : Int) else ly_l pt' n f0 s i := rfl
    have eg : ly_g pt n s i ↔ ly_g pt' n s i := by
      unfold ly_g
      rw [ly_k_congr hp s i hi, hp i hi, hu_a_congr hp (ly_k_congr hp s)]
    by_cases hg : ly_g pt n s i
    · rw [e0, e1, if_pos hg, if_pos (eg.mp hg)]
    · rw [e0, e1, if_neg hg, if_neg (fun g => hg (eg.mpr g)), ih i hi]
theorem ic_layers {E : AE} {l : Launch} {k n m : Nat} {pt : Nat → ge_P} {rt : Nat → Nat} {rg : Nat → ge_P} {h : AH} (C : ic k n m pt rt rg h) (hk : k ≤ 600) : am_g E l 23 [.inr (.inr 12)] h (fun r h1 => r = none ∧ (∀ c, c ≠ 12 → c ≠ 13 → c ≠ 14 → c ≠ 15 → c ≠ 16 → h1 c = h c) ∧ ic k n m pt rt rg h1 ∧ lv n pt h1) := by
  have C0 := C
  obtain ⟨P, Rr, v, hh, hl, hc, ht⟩ := C
  have v' := v
  have hl' := hl
  unfold icV at v'
  unfold icL at hl'
  refine s_La_refresh P.2.2.1 P.1 P.2.1 (by omega) (by omega) (by omega) (by omega) (fun e => ?_) (fun ne h' s f e1 e2 e3 e4 => ?_)
  · exact ⟨rfl, fun _ _ _ _ _ _ => rfl, C0, hl'.2.2 e⟩
  · have hpp : ∀ i, i < n → pd_q h i = pt i := P.2.2.2
    have f' : ∀ c, c = 1 ∨ c = 2 ∨ c = 3 ∨ c = 4 ∨ c = 6 ∨ c = 17 ∨ c = 18 ∨ c = 19 ∨ c = 20 ∨ c = 21 ∨ c = 22 → h' c = h c := fun c hc => f c (by omega) (by omega) (by omega) (by omega) (by omega)
    have hvv : lv n pt h' := ⟨s, h 13, ly_N_congr hpp e2, e3, fun i hi => by rw [e4 i hi]; exact ly_l_congr hpp _ s i hi⟩
    refine ⟨rfl, f, ⟨icP_cg P (f' _ (by decide)) (f' _ (by decide)) (f' _ (by decide)), icR_cg Rr (f' _ (by decide)) (f' _ (by decide)), icV_cg v (f' _ (by decide)) (f' _ (by decide)), icH_cg hh (f' _ (by decide)) (f' _ (by decide)) (f' _ (by decide)), ?_, icC_cg hc (f' _ (by decide)) (f' _ (by decide)) (f' _ (by decide)), icT_cg ht (f' _ (by decide)) (f' _ (by decide)) (f' _ (by decide))⟩, hvv⟩
    unfold icL
    rw [f' 1 (by decide)]
    exact ⟨by omega, by omega, fun _ => hvv⟩
abbrev an_layer (pt : Nat → ge_P) (n : Nat) (x : Int) : Int := if 0 ≤ x ∧ x < n then ly_l pt n (fun _ => 0) (ly_n pt n) x.toNat else -1
set_option maxRecDepth 20000 in
set_option maxHeartbeats 2000000 in
theorem c_layer {E : AE} {l : Launch} {k n m : Nat} {pt : Nat → ge_P} {rt : Nat → Nat} {rg : Nat → ge_P} {h : AH} (C : ic k n m pt rt rg h) (hk : k ≤ 600) {x : Int} (hx : lo_r x) : am_g E l 33 [.inr (.inr 0), .inl x] h (cq (k + 1) n m pt rt rg h (some (.inl (an_layer pt n x)))) := by
  have hC0 : ∀ v, cq (k + 1) n m pt rt rg h v v h := fun v => ⟨rfl, fun _ _ => rfl, ic_mono C (by omega)⟩
  have p1 := C.1.1
  have p2 := C.1.2.1
  refine am_met T_De_layer (by decide) (Nat.le_of_ble_eq_true rfl) (fun J hJ => ?_)
  repeat (first | refine hJ _ _ _ _ ?_ | refine And.intro (by omega) (fun _ => ?_) | refine And.intro (by omega) ?_ | refine And.intro (fun _ => ?_) (by omega))
  refine s_Po_has p1 p2 hx.1 hx.2 (fun g => ?_) (fun g => ?_)
  · repeat (first | refine hJ _ _ _ _ ?_ | refine And.intro (by omega) (fun _ => ?_) | refine And.intro (by omega) ?_ | refine And.intro (fun _ => ?_) (by omega))
    refine am_g_mono (ic_layers C hk) ?_
    rintro r h1 ⟨rfl, f, C1, s, f0, hN, e3, e4⟩
    have hC : ∀ v, cq (k + 1) n m pt rt rg h v v h1 := fun v => ⟨rfl, fun c hc => f c (by omega) (by omega) (by omega) (by omega) (by omega), ic_mono C1 (by omega)⟩
    repeat (first | refine hJ _ _ _ _ ?_ | refine And.intro (by omega) (fun _ => ?_) | refine And.intro (by omega) ?_ | refine And.intro (fun _ => ?_) (by omega))
    have es : s = ly_n pt n := ly_N_uniq hN (ly_n_N pt n)
    have e : an_layer pt n x = ly_l pt n (fun _ => 0) (ly_n pt n) x.toNat := if_pos g
    rw [e, ← es, ← (ly_l_eq f0 (fun _ => 0) s x.toNat (ly_N_all hN (by omega))).1, ← e4 x.toNat (by omega)]
    exact hC _
  · repeat (first | refine hJ _ _ _ _ ?_ | refine And.intro (by omega) (fun _ => ?_) | refine And.intro (by omega) ?_ | refine And.intro (fun _ => ?_) (by omega))
    have e : an_layer pt n x = -1 := if_neg g
    rw [e]
    exact hC0 _
/-- the reference's layers, asked for -/
theorem ir_peel {E : AE} {l : Launch} {n m : Nat} {pt : Nat → ge_P} {rt : Nat → Nat} {h : AH} (R : ir n m pt rt h) : am_g E l 107 [.inr (.inr 24)] h (fun r h1 => r = some (.inl (ly_n pt n : Int)) ∧ (∀ c, c < 24 ∨ c = 34 → h1 c = h c) ∧ (∀ j, j ≠ 8 → h1 24 j = h 24 j) ∧ ir n m pt rt h1 ∧ ∀ i, i < n → h1 30 i = ly_l pt n (fun _ => 0) (ly_n pt n) i) := by
  obtain ⟨P, r1, r2⟩ := R
  refine s_Mo_peel P (fun s h' hN f f24 e4 => ?_)
  have es : s = ly_n pt n := ly_N_uniq hN (ly_n_N pt n)
  subst es
  refine ⟨rfl, fun c hc => f c (by omega) (by omega) (by omega) (by omega), f24, ⟨mp_cg P (f24 3 (by decide)) (f 25 (by decide) (by decide) (by decide) (by decide)) (f 26 (by decide) (by decide) (by decide) (by decide)), by rw [f24 5 (by decide)]; exact r1, by rw [f 27 (by decide) (by decide) (by decide) (by decide)]; exact r2⟩, fun i hi => ?_⟩
  rw [e4 i hi]
  exact (ly_l_eq _ _ _ i (ly_N_all hN hi)).1
set_option maxRecDepth 20000 in
set_option maxHeartbeats 2000000 in
theorem m_layer {E : AE} {l : Launch} {n m : Nat} {pt : Nat → ge_P} {rt : Nat → Nat} {h : AH} (R : ir n m pt rt h) {x : Int} (hx : lo_r x) : am_g E l 114 [.inr (.inr 24), .inl x] h (rq n m pt rt h 0 (some (.inl (an_layer pt n x)))) := by
  have p2 := R.1.2.1
  refine am_met T_Mo_layer (by decide) (Nat.le_of_ble_eq_true rfl) (fun J hJ => ?_)
  repeat (first | refine hJ _ _ _ _ ?_ | refine And.intro (by omega) (fun _ => ?_) | refine And.intro (by omega) ?_ | refine And.intro (fun _ => ?_) (by omega))
  refine am_g_mono (ir_peel (ir_t R (t := 0))) ?_
  rintro r h1 ⟨rfl, f, f24, R1, e4⟩
  have hC : ∀ v, rq n m pt rt h 0 v v h1 := fun v => ⟨rfl, fun c hc => by rw [f c hc, am_up_o (by omega)], by rw [f24 0 (by decide)]; rfl, R1⟩
  repeat (first | refine hJ _ _ _ _ ?_ | refine And.intro (by omega) (fun _ => ?_) | refine And.intro (by omega) ?_ | refine And.intro (fun _ => ?_) (by omega))
  refine s_Mo_isPoint R1.1.1 p2 hx.1 hx.2 (fun g => ?_) (fun g => ?_)
  · repeat (first | refine hJ _ _ _ _ ?_ | refine And.intro (by omega) (fun _ => ?_) | refine And.intro (by omega) ?_ | refine And.intro (fun _ => ?_) (by omega))
    have e : an_layer pt n x = ly_l pt n (fun _ => 0) (ly_n pt n) x.toNat := if_pos g
    rw [e, ← e4 x.toNat (by omega)]
    exact hC _
  · repeat (first | refine hJ _ _ _ _ ?_ | refine And.intro (by omega) (fun _ => ?_) | refine And.intro (by omega) ?_ | refine And.intro (fun _ => ?_) (by omega))
    have e : an_layer pt n x = -1 := if_neg g
    rw [e]
    exact hC _
theorem ly_n_le (pt : Nat → ge_P) (n : Nat) : ly_n pt n ≤ n := ly_N_le (ly_n_N pt n)
theorem o_layer {E : AE} {l : Launch} {s : State} {k : Nat} {h : AH} (hk : k ≤ 600) (I : iv k h) : op_layer E l s (iv (k + 1)) h := by
  obtain ⟨n, m, pt, rt, rg, C, R⟩ := I
  intro x hx
  have p2 := C.1.2.1
  have b : -2147483648 ≤ an_layer pt n x ∧ an_layer pt n x < 2147483648 := by
    have hle := ly_n_le pt n
    unfold an_layer
    split
    · rename_i g
      have := (ly_l_eq (pt := pt) (n := n) (fun _ => 0) (fun _ => 0) (ly_n pt n) x.toNat (ly_N_all (ly_n_N pt n) (by omega))).2
      omega
    · omega
  exact op_i R b.1 b.2 (c_layer C hk hx) (fun h1 R1 => m_layer R1 hx)
/-! count -/
abbrev an_prs (pt : Nat → ge_P) (n : Nat) : Int := su (fun i => su (pa pt i) (i + 1) n) 0 n
abbrev an_thr (pt : Nat → ge_P) (n : Nat) : Int := su (fun i => su (fun k => su (tl pt i k) (k + 1) n) (i + 1) n) 0 n
abbrev an_count (pt : Nat → ge_P) (n m : Nat) (x : Int) : Int := if x = 0 then (n : Int) else if x = 1 then (hu_m pt (fun _ => true) n : Int) else if x = 2 then (ly_n pt n : Int) else if x = 3 then (m : Int) else if x = 4 then an_prs pt n else if x = 5 then an_thr pt n else -1
theorem pa_congr {pt pt' : Nat → ge_P} {n : Nat} (hp : ∀ i, i < n → pt i = pt' i) : an_prs pt n = an_prs pt' n := by
  refine su_congr (fun i _ hi => su_congr (fun k hk1 hk => ?_))
  unfold pa
  rw [hp i hi, hp k hk]
theorem tl_congr {pt pt' : Nat → ge_P} {n : Nat} (hp : ∀ i, i < n → pt i = pt' i) : an_thr pt n = an_thr pt' n := by
  refine su_congr (fun i _ hi => su_congr (fun k hk1 hk => su_congr (fun j hj1 hj => ?_)))
  unfold tl
  rw [hp i hi, hp k hk, hp j hj]
set_option maxRecDepth 20000 in
set_option maxHeartbeats 2000000 in
theorem c_count {E : AE} {l : Launch} {k n m : Nat} {pt : Nat → ge_P} {rt : Nat → Nat} {rg : Nat → ge_P} {h : AH} (C : ic k n m pt rt rg h) (hk : k ≤ 600) {x : Int} (hx : lo_r x) : am_g E l 26 [.inr (.inr 0), .inl x] h (cq (k + 1) n m pt rt rg h (some (.inl (an_count pt n m x)))) := by
  have hC0 : ∀ v, cq (k + 1) n m pt rt rg h v v h := fun v => ⟨rfl, fun _ _ => rfl, ic_mono C (by omega)⟩
  have p1 := C.1.1
  have p2 := C.1.2.1
  have H := C.1.2.2.1
  have hpp : ∀ i, i < n → pd_q h i = pt i := C.1.2.2.2
  refine am_met T_De_count (by decide) (Nat.le_of_ble_eq_true rfl) (fun J hJ => ?_)
  repeat (first | refine hJ _ _ _ _ ?_ | refine And.intro (by omega) (fun _ => ?_) | refine And.intro (by omega) ?_ | refine And.intro (fun _ => ?_) (by omega))
  refine And.intro (fun hd => ?_) (And.intro (fun h0 => ?_) (And.intro (fun h1 => ?_) (And.intro (fun h2 => ?_) (And.intro (fun h3 => ?_) (And.intro (fun h4 => ?_) (And.intro (fun h5 => ?_) trivial))))))
  · repeat (first | refine hJ _ _ _ _ ?_ | refine And.intro (by omega) (fun _ => ?_) | refine And.intro (by omega) ?_ | refine And.intro (fun _ => ?_) (by omega))
    have e : an_count pt n m x = -1 := by
      unfold an_count
      rw [if_neg (by omega), if_neg (by omega), if_neg (by omega), if_neg (by omega), if_neg (by omega), if_neg (by omega)]
    rw [e]
    exact hC0 _
  · repeat (first | refine hJ _ _ _ _ ?_ | refine And.intro (by omega) (fun _ => ?_) | refine And.intro (by omega) ?_ | refine And.intro (fun _ => ?_) (by omega))
    have e : an_count pt n m x = (n : Int) := if_pos (by omega)
    rw [e, ← p1]
    exact hC0 _
  · repeat (first | refine hJ _ _ _ _ ?_ | refine And.intro (by omega) (fun _ => ?_) | refine And.intro (by omega) ?_ | refine And.intro (fun _ => ?_) (by omega))
    refine am_g_mono (ic_hull C hk) ?_
    rintro r h1 ⟨rfl, f, C1, V⟩
    have hC : ∀ v, cq (k + 1) n m pt rt rg h v v h1 := fun v => ⟨rfl, fun c hc => f c (by omega) (by omega) (by omega), ic_mono C1 (by omega)⟩
    repeat (first | refine hJ _ _ _ _ ?_ | refine And.intro (by omega) (fun _ => ?_) | refine And.intro (by omega) ?_ | refine And.intro (fun _ => ?_) (by omega))
    have e : an_count pt n m x = (hu_m pt (fun _ => true) n : Int) := by
      unfold an_count
      rw [if_neg (by omega), if_pos (by omega)]
    rw [e, ← V.1]
    exact hC _
  · repeat (first | refine hJ _ _ _ _ ?_ | refine And.intro (by omega) (fun _ => ?_) | refine And.intro (by omega) ?_ | refine And.intro (fun _ => ?_) (by omega))
    refine am_g_mono (ic_layers C hk) ?_
    rintro r h1 ⟨rfl, f, C1, s, f0, hN, e3, e4⟩
    have hC : ∀ v, cq (k + 1) n m pt rt rg h v v h1 := fun v => ⟨rfl, fun c hc => f c (by omega) (by omega) (by omega) (by omega) (by omega), ic_mono C1 (by omega)⟩
    repeat (first | refine hJ _ _ _ _ ?_ | refine And.intro (by omega) (fun _ => ?_) | refine And.intro (by omega) ?_ | refine And.intro (fun _ => ?_) (by omega))
    have es : s = ly_n pt n := ly_N_uniq hN (ly_n_N pt n)
    have e : an_count pt n m x = (ly_n pt n : Int) := by
      unfold an_count
      rw [if_neg (by omega), if_neg (by omega), if_pos (by omega)]
    rw [e, ← es, ← e3]
    exact hC _
  · repeat (first | refine hJ _ _ _ _ ?_ | refine And.intro (by omega) (fun _ => ?_) | refine And.intro (by omega) ?_ | refine And.intro (fun _ => ?_) (by omega))
    have e : an_count pt n m x = (m : Int) := by
      unfold an_count
      rw [if_neg (by omega), if_neg (by omega), if_neg (by omega), if_pos (by omega)]
    rw [e, ← C.2.1.1]
    exact hC0 _
  · repeat (first | refine hJ _ _ _ _ ?_ | refine And.intro (by omega) (fun _ => ?_) | refine And.intro (by omega) ?_ | refine And.intro (fun _ => ?_) (by omega))
    refine s_Po_pairs H p1 p2 ?_
    repeat (first | refine hJ _ _ _ _ ?_ | refine And.intro (by omega) (fun _ => ?_) | refine And.intro (by omega) ?_ | refine And.intro (fun _ => ?_) (by omega))
    have e : an_count pt n m x = an_prs (pd_q h) n := by
      unfold an_count
      rw [if_neg (by omega), if_neg (by omega), if_neg (by omega), if_neg (by omega), if_pos (by omega)]
      exact (pa_congr hpp).symm
    rw [e]
    exact hC0 _
  · repeat (first | refine hJ _ _ _ _ ?_ | refine And.intro (by omega) (fun _ => ?_) | refine And.intro (by omega) ?_ | refine And.intro (fun _ => ?_) (by omega))
    refine s_Po_threes H p1 p2 ?_
    repeat (first | refine hJ _ _ _ _ ?_ | refine And.intro (by omega) (fun _ => ?_) | refine And.intro (by omega) ?_ | refine And.intro (fun _ => ?_) (by omega))
    have e : an_count pt n m x = an_thr (pd_q h) n := by
      unfold an_count
      rw [if_neg (by omega), if_neg (by omega), if_neg (by omega), if_neg (by omega), if_neg (by omega), if_pos (by omega)]
      exact (tl_congr hpp).symm
    rw [e]
    exact hC0 _
set_option maxRecDepth 20000 in
set_option maxHeartbeats 2000000 in
theorem m_count {E : AE} {l : Launch} {n m : Nat} {pt : Nat → ge_P} {rt : Nat → Nat} {h : AH} (R : ir n m pt rt h) {x : Int} (hx : lo_r x) : am_g E l 109 [.inr (.inr 24), .inl x] h (rq n m pt rt h 0 (some (.inl (an_count pt n m x)))) := by
  have hQ : ∀ v, rq n m pt rt h 0 v v (am_up h 24 0 0) := fun v => rq_t R
  have R0 := ir_t R (t := 0)
  have P := R0.1
  have p1 := P.1
  have p2 := P.2.1
  have r5 := R0.2.1
  refine am_met T_Mo_count (by decide) (Nat.le_of_ble_eq_true rfl) (fun J hJ => ?_)
  repeat (first | refine hJ _ _ _ _ ?_ | refine And.intro (by omega) (fun _ => ?_) | refine And.intro (by omega) ?_ | refine And.intro (fun _ => ?_) (by omega))
  refine And.intro (fun hd => ?_) (And.intro (fun h0 => ?_) (And.intro (fun h1 => ?_) (And.intro (fun h2 => ?_) (And.intro (fun h3 => ?_) (And.intro (fun h4 => ?_) (And.intro (fun h5 => ?_) trivial))))))
  · repeat (first | refine hJ _ _ _ _ ?_ | refine And.intro (by omega) (fun _ => ?_) | refine And.intro (by omega) ?_ | refine And.intro (fun _ => ?_) (by omega))
    have e : an_count pt n m x = -1 := by
      unfold an_count
      rw [if_neg (by omega), if_neg (by omega), if_neg (by omega), if_neg (by omega), if_neg (by omega), if_neg (by omega)]
    rw [e]
    exact hQ _
  · repeat (first | refine hJ _ _ _ _ ?_ | refine And.intro (by omega) (fun _ => ?_) | refine And.intro (by omega) ?_ | refine And.intro (fun _ => ?_) (by omega))
    have e : an_count pt n m x = (n : Int) := if_pos (by omega)
    rw [e, ← p1]
    exact hQ _
  · repeat (first | refine hJ _ _ _ _ ?_ | refine And.intro (by omega) (fun _ => ?_) | refine And.intro (by omega) ?_ | refine And.intro (fun _ => ?_) (by omega))
    refine am_g_mono (ir_hull R0) ?_
    rintro r h1 ⟨rfl, f, f24, R1, K, V⟩
    have hC : ∀ v, rq n m pt rt h 0 v v h1 := fun v => ⟨rfl, fun c hc => by rw [f c (by omega) (by omega) (by omega), am_up_o (by omega)], by rw [f24 0 (by decide)]; rfl, R1⟩
    repeat (first | refine hJ _ _ _ _ ?_ | refine And.intro (by omega) (fun _ => ?_) | refine And.intro (by omega) ?_ | refine And.intro (fun _ => ?_) (by omega))
    have e : an_count pt n m x = (hu_m pt (fun _ => true) n : Int) := by
      unfold an_count
      rw [if_neg (by omega), if_pos (by omega)]
    rw [e, ← K.1]
    exact hC _
  · repeat (first | refine hJ _ _ _ _ ?_ | refine And.intro (by omega) (fun _ => ?_) | refine And.intro (by omega) ?_ | refine And.intro (fun _ => ?_) (by omega))
    refine am_g_mono (ir_peel R0) ?_
    rintro r h1 ⟨rfl, f, f24, R1, e4⟩
    have hC : ∀ v, rq n m pt rt h 0 v v h1 := fun v => ⟨rfl, fun c hc => by rw [f c hc, am_up_o (by omega)], by rw [f24 0 (by decide)]; rfl, R1⟩
    repeat (first | refine hJ _ _ _ _ ?_ | refine And.intro (by omega) (fun _ => ?_) | refine And.intro (by omega) ?_ | refine And.intro (fun _ => ?_) (by omega))
    have e : an_count pt n m x = (ly_n pt n : Int) := by
      unfold an_count
      rw [if_neg (by omega), if_neg (by omega), if_pos (by omega)]
    rw [e]
    exact hC _
  · repeat (first | refine hJ _ _ _ _ ?_ | refine And.intro (by omega) (fun _ => ?_) | refine And.intro (by omega) ?_ | refine And.intro (fun _ => ?_) (by omega))
    have e : an_count pt n m x = (m : Int) := by
      unfold an_count
      rw [if_neg (by omega), if_neg (by omega), if_neg (by omega), if_pos (by omega)]
    rw [e, ← r5]
    exact hQ _
  · have e9 : an_count pt n m x = su (fun i => su (pa pt i) 0 i) 0 n := by
      unfold an_count
      rw [if_neg (by omega), if_neg (by omega), if_neg (by omega), if_neg (by omega), if_pos (by omega)]
      exact pa_eq pt n
    have outer : ∀ d p : Nat, ∀ (acc : Int) (y : Option AV), p + d = n → acc = su (fun i => su (pa pt i) 0 i) 0 p → J 74 [some (.inr (.inr 24)), some (.inl x), some (.inl acc), some (.inl (p : Int)), y] [] (am_up h 24 0 0) := by
      intro d
      induction d with
      | zero =>
        intro p acc y hp ha
        have ep : p = n := by omega
        rw [ep] at ha
        repeat (first | refine hJ _ _ _ _ ?_ | refine And.intro (by omega) (fun _ => ?_) | refine And.intro (by omega) ?_ | refine And.intro (fun _ => ?_) (by omega))
        rw [ha, ← e9]
        exact hQ _
      | succ d oih =>
        intro p acc y hp ha
        have inner : ∀ e q : Nat, ∀ acc : Int, q + e = p → acc = su (fun i => su (pa pt i) 0 i) 0 p + su (pa pt p) 0 q → J 85 [some (.inr (.inr 24)), some (.inl x), some (.inl acc), some (.inl (p : Int)), some (.inl (q : Int))] [] (am_up h 24 0 0) := by
          intro e
          induction e with
          | zero =>
            intro q acc hq ha
            have eq : q = p := by omega
            rw [eq] at ha
            repeat (first | exact oih (p + 1) _ _ (by omega) (by rw [su_s (by omega)]; exact ha) | refine hJ _ _ _ _ ?_ | refine And.intro (by omega) (fun _ => ?_) | refine And.intro (by omega) ?_ | refine And.intro (fun _ => ?_) (by omega))
          | succ e ih =>
            intro q acc hq ha
            repeat (first | refine hJ _ _ _ _ ?_ | refine And.intro (by omega) (fun _ => ?_) | refine And.intro (by omega) ?_ | refine And.intro (fun _ => ?_) (by omega))
            refine s_Mo_isSame P (by omega) (by omega) (by omega) (by omega) (fun hs => ?_) (fun hs => ?_)
            · have e1 : pa pt p q = 1 := if_pos hs
              repeat (first | exact ih (q + 1) _ (by omega) (by rw [su_s (by omega)]; omega) | refine hJ _ _ _ _ ?_ | refine And.intro (by omega) (fun _ => ?_) | refine And.intro (by omega) ?_ | refine And.intro (fun _ => ?_) (by omega))
            · have e1 : pa pt p q = 0 := if_neg hs
              repeat (first | exact ih (q + 1) _ (by omega) (by rw [su_s (by omega)]; omega) | refine hJ _ _ _ _ ?_ | refine And.intro (by omega) (fun _ => ?_) | refine And.intro (by omega) ?_ | refine And.intro (fun _ => ?_) (by omega))
        repeat (first | exact inner p 0 _ (by omega) (by rw [su_0 (Nat.le_refl 0)]; omega) | refine hJ _ _ _ _ ?_ | refine And.intro (by omega) (fun _ => ?_) | refine And.intro (by omega) ?_ | refine And.intro (fun _ => ?_) (by omega))
    repeat (first | exact outer n 0 _ _ (by omega) (by rw [su_0 (by omega)]) | refine hJ _ _ _ _ ?_ | refine And.intro (by omega) (fun _ => ?_) | refine And.intro (by omega) ?_ | refine And.intro (fun _ => ?_) (by omega))
  · repeat (first | refine hJ _ _ _ _ ?_ | refine And.intro (by omega) (fun _ => ?_) | refine And.intro (by omega) ?_ | refine And.intro (fun _ => ?_) (by omega))
    refine s_Mo_lines P ?_
    repeat (first | refine hJ _ _ _ _ ?_ | refine And.intro (by omega) (fun _ => ?_) | refine And.intro (by omega) ?_ | refine And.intro (fun _ => ?_) (by omega))
    have e : an_count pt n m x = an_thr pt n := by
      unfold an_count
      rw [if_neg (by omega), if_neg (by omega), if_neg (by omega), if_neg (by omega), if_neg (by omega), if_pos (by omega)]
    rw [e]
    exact hQ _
theorem o_count {E : AE} {l : Launch} {s : State} {k : Nat} {h : AH} (hk : k ≤ 600) (I : iv k h) : op_count E l s (iv (k + 1)) h := by
  obtain ⟨n, m, pt, rt, rg, C, R⟩ := I
  intro x hx
  have p2 := C.1.2.1
  have m2 := C.2.1.2.1
  have b : -2147483648 ≤ an_count pt n m x ∧ an_count pt n m x < 2147483648 := by
    have hle := ly_n_le pt n
    have hle2 := hu_m_le pt (fun _ => true) n
    have b1 : 0 * (n : Int) ≤ an_prs pt n ∧ an_prs pt n ≤ 60 * (n : Int) := su_b (by decide) (by decide) (fun i _ hi => by
      have := su_b (g := pa pt i) (s := i + 1) (e := n) (A := 0) (B := 1) (by decide) (by decide) (fun k _ _ => pa_b pt i k)
      omega)
    have b2 : 0 * (n : Int) ≤ an_thr pt n ∧ an_thr pt n ≤ 3600 * (n : Int) := su_b (by decide) (by decide) (fun i _ hi => by
      have := su_b (g := fun k => su (tl pt i k) (k + 1) n) (s := i + 1) (e := n) (A := 0) (B := 60) (by decide) (by decide) (fun k _ _ => by
        have := su_b (g := tl pt i k) (s := k + 1) (e := n) (A := 0) (B := 1) (by decide) (by decide) (fun j _ _ => tl_b pt i k j)
        show 0 ≤ su (tl pt i k) (k + 1) n ∧ su (tl pt i k) (k + 1) n ≤ 60
        omega)
      show 0 ≤ su (fun k => su (tl pt i k) (k + 1) n) (i + 1) n ∧ su (fun k => su (tl pt i k) (k + 1) n) (i + 1) n ≤ 3600
      omega)
    unfold an_count
    split
    · omega
    · split
      · omega
      · split
        · omega
        · split
          · omega
          · split
            · omega
            · split <;> omega
  exact op_i R b.1 b.2 (c_count C hk hx) (fun h1 R1 => m_count R1 hx)
/-! where -/
set_option maxRecDepth 20000 in
set_option maxHeartbeats 2000000 in
theorem c_where {E : AE} {l : Launch} {k n m : Nat} {pt : Nat → ge_P} {rt : Nat → Nat} {rg : Nat → ge_P} {h : AH} (C : ic k n m pt rt rg h) (hk : k ≤ 600) {x y : Int} (hx : pd_in x y) : am_g E l 49 [.inr (.inr 0), .inl x, .inl y] h (cq (k + 1) n m pt rt rg h (some (.inl (hu_a pt (fun _ => true) n (x, y))))) := by
  refine am_met T_De_where (by decide) (Nat.le_of_ble_eq_true rfl) (fun J hJ => ?_)
  repeat (first | refine hJ _ _ _ _ ?_ | refine And.intro (by omega) (fun _ => ?_) | refine And.intro (by omega) ?_ | refine And.intro (fun _ => ?_) (by omega))
  refine s_De_requireInPlane hx ?_
  repeat (first | refine hJ _ _ _ _ ?_ | refine And.intro (by omega) (fun _ => ?_) | refine And.intro (by omega) ?_ | refine And.intro (fun _ => ?_) (by omega))
  refine am_g_mono (ic_hull C hk) ?_
  rintro r h1 ⟨rfl, f, C1, V⟩
  repeat (first | refine hJ _ _ _ _ ?_ | refine And.intro (by omega) (fun _ => ?_) | refine And.intro (by omega) ?_ | refine And.intro (fun _ => ?_) (by omega))
  refine s_Po_ask ?_
  have C2 := ic_ask C1 hx
  have V2 : hv n pt (am_up (am_up h1 2 60 x) 3 60 y) := V
  have ea := pd_ask h1 x y
  have hC : ∀ v, cq (k + 1) n m pt rt rg h v v (am_up (am_up h1 2 60 x) 3 60 y) := fun v => ⟨rfl, fun c hc => by rw [am_up_o (by omega), am_up_o (by omega)]; exact f c (by omega) (by omega) (by omega), ic_mono C2 (by omega)⟩
  generalize am_up (am_up h1 2 60 x) 3 60 y = g at *
  repeat (first | refine hJ _ _ _ _ ?_ | refine And.intro (by omega) (fun _ => ?_) | refine And.intro (by omega) ?_ | refine And.intro (fun _ => ?_) (by omega))
  refine s_Hu_holds (.inl rfl) C2.1.2.2.1 (hv_hk C2 V2) (by decide) (by decide) ?_
  rw [ea]
  repeat (first | refine hJ _ _ _ _ ?_ | refine And.intro (by omega) (fun _ => ?_) | refine And.intro (by omega) ?_ | refine And.intro (fun _ => ?_) (by omega))
  exact hC _
set_option maxRecDepth 20000 in
set_option maxHeartbeats 2000000 in
theorem m_where {E : AE} {l : Launch} {n m : Nat} {pt : Nat → ge_P} {rt : Nat → Nat} {h : AH} (R : ir n m pt rt h) {x y : Int} (hx : pd_in x y) : am_g E l 125 [.inr (.inr 24), .inl x, .inl y] h (rq n m pt rt h 0 (some (.inl (hu_a pt (fun _ => true) n (x, y))))) := by
  have hx' := hx
  unfold pd_in at hx'
  have e0 : am_up h 24 0 0 24 0 = 0 := rfl
  refine am_met T_Mo_where (by decide) (Nat.le_of_ble_eq_true rfl) (fun J hJ => ?_)
  repeat (first | refine hJ _ _ _ _ ?_ | refine And.intro (by omega) (fun _ => ?_) | refine And.intro (by omega) ?_ | refine And.intro (fun _ => ?_) (by omega))
  refine s_Mo_isFar (by omega) (by omega) (fun g => by omega) (fun _ => ?_)
  repeat (first | refine hJ _ _ _ _ ?_ | refine And.intro (by omega) (fun _ => ?_) | refine And.intro (by omega) ?_ | refine And.intro (fun _ => ?_) (by omega))
  refine s_Mo_isFar (by omega) (by omega) (fun g => by omega) (fun _ => ?_)
  repeat (first | refine hJ _ _ _ _ ?_ | refine And.intro (by omega) (fun _ => ?_) | refine And.intro (by omega) ?_ | refine And.intro (fun _ => ?_) (by omega))
  refine am_g_mono (ir_hull (ir_t R (t := 0))) ?_
  rintro r h1 ⟨rfl, f, f24, R1, K, V⟩
  have hC : ∀ v, rq n m pt rt h 0 v v h1 := fun v => ⟨rfl, fun c hc => by rw [f c (by omega) (by omega) (by omega), am_up_o (by omega)], by rw [f24 0 (by decide)]; rfl, R1⟩
  repeat (first | refine hJ _ _ _ _ ?_ | refine And.intro (by omega) (fun _ => ?_) | refine And.intro (by omega) ?_ | refine And.intro (fun _ => ?_) (by omega))
  refine s_Mo_whereIs R1.1 K hx ?_
  repeat (first | refine hJ _ _ _ _ ?_ | refine And.intro (by omega) (fun _ => ?_) | refine And.intro (by omega) ?_ | refine And.intro (fun _ => ?_) (by omega))
  exact hC _
set_option maxRecDepth 20000 in
set_option maxHeartbeats 2000000 in
theorem m_where_1 {E : AE} {l : Launch} {n m : Nat} {pt : Nat → ge_P} {rt : Nat → Nat} {h : AH} (R : ir n m pt rt h) {x y : Int} (hx : lo_r x) (hy : lo_r y) (hb : ¬ pd_in x y) : am_g E l 125 [.inr (.inr 24), .inl x, .inl y] h (rq n m pt rt h 1 (some (.inl 0))) := by
  have hQ : ∀ v, rq n m pt rt h 1 v v (am_up h 24 0 1) := fun v => rq_t R
  unfold pd_in at hb
  have e0 : am_up h 24 0 1 24 0 = 1 := rfl
  refine am_met T_Mo_where (by decide) (Nat.le_of_ble_eq_true rfl) (fun J hJ => ?_)
  repeat (first | refine hJ _ _ _ _ ?_ | refine And.intro (by omega) (fun _ => ?_) | refine And.intro (by omega) ?_ | refine And.intro (fun _ => ?_) (by omega))
  refine s_Mo_isFar hx.1 hx.2 (fun g => ?_) (fun g => ?_)
  · repeat (first | refine hJ _ _ _ _ ?_ | refine And.intro (by omega) (fun _ => ?_) | refine And.intro (by omega) ?_ | refine And.intro (fun _ => ?_) (by omega))
    exact hQ _
  · repeat (first | refine hJ _ _ _ _ ?_ | refine And.intro (by omega) (fun _ => ?_) | refine And.intro (by omega) ?_ | refine And.intro (fun _ => ?_) (by omega))
    refine s_Mo_isFar hy.1 hy.2 (fun g2 => ?_) (fun g2 => by omega)
    repeat (first | refine hJ _ _ _ _ ?_ | refine And.intro (by omega) (fun _ => ?_) | refine And.intro (by omega) ?_ | refine And.intro (fun _ => ?_) (by omega))
    exact hQ _
theorem o_where {E : AE} {l : Launch} {s : State} (htr : l.stackTraces = false) (h0 : tx_0 s E) {k : Nat} {h : AH} (hk : k ≤ 600) (I : iv k h) : op_where E l s (iv (k + 1)) h := by
  obtain ⟨n, m, pt, rt, rg, C, R⟩ := I
  intro x hx y hy
  by_cases hb : pd_in x y
  · have b := hu_at_v (hu_p pt (fun _ => true) n) (hu_m pt (fun _ => true) n) (x, y)
    have b2 : -1 ≤ hu_a pt (fun _ => true) n (x, y) ∧ hu_a pt (fun _ => true) n (x, y) ≤ 1 := b
    exact op_h R (by omega) (by omega) (fun Q hg => hp_where_0 hg) (c_where C hk hb) (fun h1 R1 => m_where R1 hb)
  · exact hp_where_1 h0 (z_De_where h0 htr hx.1 hx.2 hy.1 hy.2 hb (op_t R (ic_mono C (by omega)) (fun _ _ => rfl) (by decide) (by decide) (fun h1 R1 => m_where_1 R1 hx hy hb)))
