/-! the class: what throws -/
theorem am_g_mono {E : AE} {l : Launch} {k : Nat} {as : List AV} {h : AH} {Q Q' : AR} (hg : am_g E l k as h Q) (hQ : ∀ r h', Q r h' → Q' r h') : am_g E l k as h Q' := by
  intro sz p e ha hc hk s m args below hf happ hP hK
  obtain ⟨n, o, h1, h2, h3, ⟨⟨⟨r, h', q1, q2, q3⟩, q4⟩, q5⟩⟩ := hg sz p e ha hc hk s m args below hf happ hP hK
  exact ⟨n, o, h1, h2, h3, ⟨⟨⟨r, h', q1, hQ r h' q2, q3⟩, q4⟩, q5⟩⟩
set_option maxRecDepth 20000 in
set_option maxHeartbeats 2000000 in
theorem s_Po_has {E : AE} {l : Launch} {h : AH} {n : Nat} (hn : h 1 2 = (n : Int)) (hn2 : n ≤ 60) {i : Int} (i1 : -2147483648 ≤ i) (i2 : i < 2147483648) {Q : AR} (h1 : 0 ≤ i ∧ i < n → Q (some (.inl 1)) h) (h0 : ¬ (0 ≤ i ∧ i < n) → Q (some (.inl 0)) h) : am_g E l 27 [.inr (.inr 1), .inl i] h Q := by
  refine am_met T_Po_has (by decide) (Nat.le_of_ble_eq_true rfl) (fun J hJ => ?_)
  repeat (first | refine hJ _ _ _ _ ?_ | refine And.intro (by omega) (fun _ => ?_) | refine And.intro (by omega) ?_ | refine And.intro (fun _ => ?_) (by omega))
  refine And.intro (fun hx => ?_) (fun hx => ?_)
  · repeat (first | refine hJ _ _ _ _ ?_ | refine And.intro (by omega) (fun _ => ?_) | refine And.intro (by omega) ?_ | refine And.intro (fun _ => ?_) (by omega))
    exact h0 (by omega)
  · repeat (first | refine hJ _ _ _ _ ?_ | refine And.intro (by omega) (fun _ => ?_) | refine And.intro (by omega) ?_ | refine And.intro (fun _ => ?_) (by omega))
    refine And.intro (fun hy => ?_) (fun hy => ?_)
    · repeat (first | refine hJ _ _ _ _ ?_ | refine And.intro (by omega) (fun _ => ?_) | refine And.intro (by omega) ?_ | refine And.intro (fun _ => ?_) (by omega))
      exact h0 (by omega)
    · repeat (first | refine hJ _ _ _ _ ?_ | refine And.intro (by omega) (fun _ => ?_) | refine And.intro (by omega) ?_ | refine And.intro (fun _ => ?_) (by omega))
      exact h1 (by omega)
def pd_in (x y : Int) : Prop := -100000 ≤ x ∧ x ≤ 100000 ∧ -100000 ≤ y ∧ y ≤ 100000
set_option maxRecDepth 20000 in
set_option maxHeartbeats 2000000 in
theorem s_De_isInPlane {E : AE} {l : Launch} {h : AH} {x y : Int} (x1 : -2147483648 ≤ x) (x2 : x < 2147483648) (y1 : -2147483648 ≤ y) (y2 : y < 2147483648) {Q : AR} (h1 : pd_in x y → Q (some (.inl 1)) h) (h0 : ¬ pd_in x y → Q (some (.inl 0)) h) : am_g E l 0 [.inl x, .inl y] h Q := by
  unfold pd_in at h1 h0
  refine am_met T_De_isInPlane (by decide) (Nat.le_of_ble_eq_true rfl) (fun J hJ => ?_)
  repeat (first | refine hJ _ _ _ _ ?_ | refine And.intro (by omega) (fun _ => ?_) | refine And.intro (by omega) ?_ | refine And.intro (fun _ => ?_) (by omega))
  refine And.intro (fun hx => ?_) (fun hx => ?_)
  · repeat (first | refine hJ _ _ _ _ ?_ | refine And.intro (by omega) (fun _ => ?_) | refine And.intro (by omega) ?_ | refine And.intro (fun _ => ?_) (by omega))
    exact h0 (by omega)
  · repeat (first | refine hJ _ _ _ _ ?_ | refine And.intro (by omega) (fun _ => ?_) | refine And.intro (by omega) ?_ | refine And.intro (fun _ => ?_) (by omega))
    refine And.intro (fun hx => ?_) (fun hx => ?_)
    · repeat (first | refine hJ _ _ _ _ ?_ | refine And.intro (by omega) (fun _ => ?_) | refine And.intro (by omega) ?_ | refine And.intro (fun _ => ?_) (by omega))
      exact h0 (by omega)
    · repeat (first | refine hJ _ _ _ _ ?_ | refine And.intro (by omega) (fun _ => ?_) | refine And.intro (by omega) ?_ | refine And.intro (fun _ => ?_) (by omega))
      refine And.intro (fun hx => ?_) (fun hx => ?_)
      · repeat (first | refine hJ _ _ _ _ ?_ | refine And.intro (by omega) (fun _ => ?_) | refine And.intro (by omega) ?_ | refine And.intro (fun _ => ?_) (by omega))
        exact h0 (by omega)
      · repeat (first | refine hJ _ _ _ _ ?_ | refine And.intro (by omega) (fun _ => ?_) | refine And.intro (by omega) ?_ | refine And.intro (fun _ => ?_) (by omega))
        refine And.intro (fun hx => ?_) (fun hx => ?_)
        · repeat (first | refine hJ _ _ _ _ ?_ | refine And.intro (by omega) (fun _ => ?_) | refine And.intro (by omega) ?_ | refine And.intro (fun _ => ?_) (by omega))
          exact h0 (by omega)
        · repeat (first | refine hJ _ _ _ _ ?_ | refine And.intro (by omega) (fun _ => ?_) | refine And.intro (by omega) ?_ | refine And.intro (fun _ => ?_) (by omega))
          exact h1 (by omega)
set_option maxRecDepth 20000 in
set_option maxHeartbeats 2000000 in
theorem s_De_requirePoint {E : AE} {l : Launch} {h : AH} {n : Nat} (hn : h 1 2 = (n : Int)) (hn2 : n ≤ 60) {i : Int} (i1 : 0 ≤ i) (i2 : i < n) {Q : AR} (hQ : Q none h) : am_g E l 28 [.inr (.inr 0), .inl i] h Q := by
  refine am_met T_De_requirePoint (by decide) (Nat.le_of_ble_eq_true rfl) (fun J hJ => ?_)
  repeat (first | refine hJ _ _ _ _ ?_ | refine And.intro (by omega) (fun _ => ?_) | refine And.intro (by omega) ?_ | refine And.intro (fun _ => ?_) (by omega))
  refine s_Po_has hn hn2 (by omega) (by omega) (fun g => ?_) (fun g => absurd ⟨i1, i2⟩ g)
  repeat (first | refine hJ _ _ _ _ ?_ | refine And.intro (by omega) (fun _ => ?_) | refine And.intro (by omega) ?_ | refine And.intro (fun _ => ?_) (by omega))
  exact hQ
set_option maxRecDepth 20000 in
set_option maxHeartbeats 2000000 in
theorem s_De_requireInPlane {E : AE} {l : Launch} {h : AH} {x y : Int} (hi : pd_in x y) {Q : AR} (hQ : Q none h) : am_g E l 47 [.inl x, .inl y] h Q := by
  have hi' := hi
  unfold pd_in at hi'
  refine am_met T_De_requireInPlane (by decide) (Nat.le_of_ble_eq_true rfl) (fun J hJ => ?_)
  repeat (first | refine hJ _ _ _ _ ?_ | refine And.intro (by omega) (fun _ => ?_) | refine And.intro (by omega) ?_ | refine And.intro (fun _ => ?_) (by omega))
  refine s_De_isInPlane (by omega) (by omega) (by omega) (by omega) (fun g => ?_) (fun g => absurd hi g)
  repeat (first | refine hJ _ _ _ _ ?_ | refine And.intro (by omega) (fun _ => ?_) | refine And.intro (by omega) ?_ | refine And.intro (fun _ => ?_) (by omega))
  exact hQ
set_option maxRecDepth 20000 in
set_option maxHeartbeats 2000000 in
theorem z_De_requirePoint {E : AE} {l : Launch} {s0 : State} {h : AH} (h0 : tx_0 s0 E) (htr : l.stackTraces = false) {n : Nat} (hn : h 1 2 = (n : Int)) (hn2 : n ≤ 60) {i : Int} (i1 : -2147483648 ≤ i) (i2 : i < 2147483648) (hb : ¬ (0 ≤ i ∧ i < n)) {Qh : AH → Prop} (hQ : Qh h) : tm_g E l s0 28 tm_R1 tx_I [.inr (.inr 0), .inl i] h Qh := by
  refine tm_met U_De_requirePoint (by decide) (Nat.le_of_ble_eq_true rfl) (fun pc _ S h' => pc = 11 ∧ S = [] ∧ Qh h') ?_ ?_
  · rintro p e s m args below meth c C _ L _ h' ⟨rfl, rfl, hq⟩
    exact tm_endN h0 htr C rfl (.inl ⟨rfl, rfl⟩) tw_I.1 tw_I.2 (ist := 208) (tx := "no such point") (by simp) (by decide) (by decide +kernel) (by decide +kernel) (by decide +kernel) (by decide +kernel) (by decide +kernel) L h' hq
  · intro J hJ hE
    have hE : ∀ L h', Qh h' → J 11 L [] h' := fun L h' hq => hE 11 L [] h' ⟨rfl, rfl, hq⟩
    repeat (first | exact hE _ _ hQ | refine hJ _ _ _ _ ?_ | refine And.intro (by omega) (fun _ => ?_) | refine And.intro (by omega) ?_ | refine And.intro (fun _ => ?_) (by omega))
    refine s_Po_has hn hn2 i1 i2 (fun g => absurd g hb) (fun g => ?_)
    repeat (first | exact hE _ _ hQ | refine hJ _ _ _ _ ?_ | refine And.intro (by omega) (fun _ => ?_) | refine And.intro (by omega) ?_ | refine And.intro (fun _ => ?_) (by omega))
set_option maxRecDepth 20000 in
set_option maxHeartbeats 2000000 in
theorem z_De_requireInPlane {E : AE} {l : Launch} {s0 : State} {h : AH} (h0 : tx_0 s0 E) (htr : l.stackTraces = false) {x y : Int} (x1 : -2147483648 ≤ x) (x2 : x < 2147483648) (y1 : -2147483648 ≤ y) (y2 : y < 2147483648) (hb : ¬ pd_in x y) {Qh : AH → Prop} (hQ : Qh h) : tm_g E l s0 47 tm_R1 tx_A [.inl x, .inl y] h Qh := by
  refine tm_met U_De_requireInPlane (by decide) (Nat.le_of_ble_eq_true rfl) (fun pc _ S h' => pc = 8 ∧ S = [] ∧ Qh h') ?_ ?_
  · rintro p e s m args below meth c C _ L _ h' ⟨rfl, rfl, hq⟩
    exact tm_endN h0 htr C rfl (.inr ⟨rfl, rfl⟩) tw_A.1 tw_A.2 (ist := 210) (tx := "x or y is too large") (by simp) (by decide) (by decide +kernel) (by decide +kernel) (by decide +kernel) (by decide +kernel) (by decide +kernel) L h' hq
  · intro J hJ hE
    have hE : ∀ L h', Qh h' → J 8 L [] h' := fun L h' hq => hE 8 L [] h' ⟨rfl, rfl, hq⟩
    repeat (first | exact hE _ _ hQ | refine hJ _ _ _ _ ?_ | refine And.intro (by omega) (fun _ => ?_) | refine And.intro (by omega) ?_ | refine And.intro (fun _ => ?_) (by omega))
    refine s_De_isInPlane x1 x2 y1 y2 (fun g => absurd g hb) (fun g => ?_)
    repeat (first | exact hE _ _ hQ | refine hJ _ _ _ _ ?_ | refine And.intro (by omega) (fun _ => ?_) | refine And.intro (by omega) ?_ | refine And.intro (fun _ => ?_) (by omega))
set_option maxRecDepth 20000 in
set_option maxHeartbeats 2000000 in
theorem z_De_turn {E : AE} {l : Launch} {s0 : State} {h : AH} (h0 : tx_0 s0 E) (htr : l.stackTraces = false) {n : Nat} (hn : h 17 2 = (n : Int)) (hn2 : n ≤ 40) {i k : Int} (i1 : -2147483648 ≤ i) (i2 : i < 2147483648) (k1 : -2147483648 ≤ k) (k2 : k < 2147483648) (hb : ¬ (0 ≤ i ∧ i ≤ k ∧ k < n)) {Qh : AH → Prop} (hQ : Qh h) : tm_g E l s0 58 tm_R2 tx_I [.inr (.inr 0), .inl i, .inl k] h Qh := by
  refine tm_met U_De_turn (by decide) (Nat.le_of_ble_eq_true rfl) (fun pc _ S h' => pc = 20 ∧ S = [] ∧ Qh h') ?_ ?_
  · rintro p e s m args below meth c C _ L _ h' ⟨rfl, rfl, hq⟩
    exact tm_endN h0 htr C rfl (.inl ⟨rfl, rfl⟩) tw_I.1 tw_I.2 (ist := 172) (tx := "no such places of the route") (by simp) (by decide) (by decide +kernel) (by decide +kernel) (by decide +kernel) (by decide +kernel) (by decide +kernel) L h' hq
  · intro J hJ hE
    have hE : ∀ L h', Qh h' → J 20 L [] h' := fun L h' hq => hE 20 L [] h' ⟨rfl, rfl, hq⟩
    repeat (first | exact hE _ _ hQ | refine hJ _ _ _ _ ?_ | refine And.intro (by omega) (fun _ => ?_) | refine And.intro (by omega) ?_ | refine And.intro (fun _ => ?_) (by omega))
    refine And.intro (fun hx => ?_) (fun hx => ?_)
    · repeat (first | exact hE _ _ hQ | refine hJ _ _ _ _ ?_ | refine And.intro (by omega) (fun _ => ?_) | refine And.intro (by omega) ?_ | refine And.intro (fun _ => ?_) (by omega))
    · repeat (first | exact hE _ _ hQ | refine hJ _ _ _ _ ?_ | refine And.intro (by omega) (fun _ => ?_) | refine And.intro (by omega) ?_ | refine And.intro (fun _ => ?_) (by omega))
      refine And.intro (fun hy => ?_) (fun hy => ?_)
      · repeat (first | exact hE _ _ hQ | refine hJ _ _ _ _ ?_ | refine And.intro (by omega) (fun _ => ?_) | refine And.intro (by omega) ?_ | refine And.intro (fun _ => ?_) (by omega))
      · repeat (first | exact hE _ _ hQ | refine hJ _ _ _ _ ?_ | refine And.intro (by omega) (fun _ => ?_) | refine And.intro (by omega) ?_ | refine And.intro (fun _ => ?_) (by omega))
