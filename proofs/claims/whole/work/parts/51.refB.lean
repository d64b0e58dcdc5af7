/-! the reference: where a place lies, layers, counts -/
/-- the reference's corners in the heap -/
def mk_h (h : AH) (n m : Nat) (pt : Nat → ge_P) (cp : Nat → ge_P) : Prop := h 24 8 = (m : Int) ∧ m ≤ 60 ∧ ∀ j : Nat, j < m → 0 ≤ h 29 j ∧ h 29 j < n ∧ pt (h 29 j).toNat = cp j
theorem mp_cg {h h' : AH} {n : Nat} {pt : Nat → ge_P} (P : mp h n pt) (e1 : h' 24 3 = h 24 3) (e2 : h' 25 = h 25) (e3 : h' 26 = h 26) : mp h' n pt := by
  obtain ⟨p1, p2, p3, p4⟩ := P
  exact ⟨by rw [e1]; exact p1, p2, fun i hi => by rw [e2, e3]; exact p3 i hi, p4⟩
theorem mk_cg {h h' : AH} {n m : Nat} {pt cp : Nat → ge_P} (K : mk_h h n m pt cp) (e1 : h' 24 8 = h 24 8) (e2 : h' 29 = h 29) : mk_h h' n m pt cp := by
  obtain ⟨p1, p2, p3⟩ := K
  exact ⟨by rw [e1]; exact p1, p2, fun i hi => by rw [e2]; exact p3 i hi⟩
theorem mk_wr {h : AH} {n : Nat} {pt : Nat → ge_P} {mk : Nat → Bool} (hn : n ≤ 60) : mk_h (mo_wr h (hu_w pt mk n) (hu_m pt mk n)) n (hu_m pt mk n) pt (hu_p pt mk n) := by
  have hN := hu_m_N pt mk n
  have hle := hu_m_le pt mk n
  refine ⟨by simp [mo_wr], by omega, fun j hj => ?_⟩
  have e : mo_wr h (hu_w pt mk n) (hu_m pt mk n) 29 j = hu_w pt mk n j := by simp [mo_wr, hj]
  have h0 := hN.2 j hj
  have h1 := (hu_w_ok pt mk n j h0).1
  rw [e]
  exact ⟨h0, by omega, rfl⟩
set_option maxRecDepth 20000 in
set_option maxHeartbeats 2000000 in
theorem s_Mo_whereIs {E : AE} {l : Launch} {h : AH} {n m : Nat} {pt cp : Nat → ge_P} (P : mp h n pt) (K : mk_h h n m pt cp) {x y : Int} (hx : pd_in x y) {Q : AR} (hQ : Q (some (.inl (hu_at cp m (x, y)))) h) : am_g E l 104 [.inr (.inr 24), .inl x, .inl y] h Q := by
  have n60 := P.2.1
  obtain ⟨hm, m60, hw⟩ := K
  have hx' := hx
  unfold pd_in at hx'
  have hq3 : 3 ≤ m → hu_at cp m (x, y) = hu_in cp m (x, y) m := fun g => by
    unfold hu_at
    rw [if_neg (by omega), if_neg (by omega)]
  refine am_met T_Mo_whereIs (by decide) (Nat.le_of_ble_eq_true rfl) (fun J hJ => ?_)
  have loop : ∀ d k : Nat, ∀ (acc : Int) (u v : Option AV), 3 ≤ m → k + d = m → acc = hu_in cp m (x, y) k → J 54 [some (.inr (.inr 24)), some (.inl x), some (.inl y), some (.inl acc), some (.inl (k : Int)), u, v] [] h := by
    intro d
    induction d with
    | zero =>
      intro k acc u v h3 hk ha
      have : k = m := by omega
      subst this
      repeat (first | refine hJ _ _ _ _ ?_ | refine And.intro (by omega) (fun _ => ?_) | refine And.intro (by omega) ?_ | refine And.intro (fun _ => ?_) (by omega))
      rw [hq3 h3, ← ha] at hQ
      exact hQ
    | succ d ih =>
      intro k acc u v h3 hk ha
      have hiv := hu_in_v cp m (x, y) k
      rw [← ha] at hiv
      have wk : 0 ≤ h 29 (Int.toNat (k : Int)) ∧ h 29 (Int.toNat (k : Int)) < n ∧ pt (h 29 (Int.toNat (k : Int))).toNat = cp k := hw k (by omega)
      have hnx : nx m k < m := nx_lt (by omega)
      have wn : 0 ≤ h 29 (Int.toNat (nx m k : Int)) ∧ h 29 (Int.toNat (nx m k : Int)) < n ∧ pt (h 29 (Int.toNat (nx m k : Int))).toNat = cp (nx m k) := hw (nx m k) hnx
      have hb := mp_x (c := (x, y)) (mp_i P wk.1 wk.2.1).2.2 (mp_i P wn.1 wn.2.1).2.2 hx'
      rw [wk.2.2, wn.2.2] at hb
      repeat (first | refine hJ _ _ _ _ ?_ | refine And.intro (by omega) (fun _ => ?_) | refine And.intro (by omega) ?_ | refine And.intro (fun _ => ?_) (by omega))
      refine s_Mo_next hm m60 (by omega) ?_
      repeat (first | refine hJ _ _ _ _ ?_ | refine And.intro (by omega) (fun _ => ?_) | refine And.intro (by omega) ?_ | refine And.intro (fun _ => ?_) (by omega))
      refine s_Mo_c P wk.1 wk.2.1 wn.1 wn.2.1 hx ?_
      rw [wk.2.2, wn.2.2]
      repeat (first | refine hJ _ _ _ _ ?_ | refine And.intro (by omega) (fun _ => ?_) | refine And.intro (by omega) ?_ | refine And.intro (fun _ => ?_) (by omega))
      refine And.intro (fun hv => ?_) (fun hv => ?_)
      · repeat (first | refine hJ _ _ _ _ ?_ | refine And.intro (by omega) (fun _ => ?_) | refine And.intro (by omega) ?_ | refine And.intro (fun _ => ?_) (by omega))
        refine And.intro (fun hz => ?_) (fun hz => ?_)
        · repeat (first | exact ih (k + 1) _ _ _ h3 (by omega) (by rw [hu_in_p (by omega)]; exact ha) | refine hJ _ _ _ _ ?_ | refine And.intro (by omega) (fun _ => ?_) | refine And.intro (by omega) ?_ | refine And.intro (fun _ => ?_) (by omega))
        · repeat (first | refine hJ _ _ _ _ ?_ | refine And.intro (by omega) (fun _ => ?_) | refine And.intro (by omega) ?_ | refine And.intro (fun _ => ?_) (by omega))
          refine And.intro (fun hf => ?_) (fun hf => ?_)
          · have e : hu_in cp m (x, y) (k + 1) = acc := by
              rcases (show acc = 0 ∨ acc = -1 by omega) with g | g
              · rw [hu_in_0 hz (by omega), g]
              · rw [g]; rw [g] at ha; exact hu_in_stay ha.symm 1
            repeat (first | exact ih (k + 1) _ _ _ h3 (by omega) e.symm | refine hJ _ _ _ _ ?_ | refine And.intro (by omega) (fun _ => ?_) | refine And.intro (by omega) ?_ | refine And.intro (fun _ => ?_) (by omega))
          · repeat (first | exact ih (k + 1) _ _ _ h3 (by omega) (by rw [hu_in_0 hz (by omega)]) | refine hJ _ _ _ _ ?_ | refine And.intro (by omega) (fun _ => ?_) | refine And.intro (by omega) ?_ | refine And.intro (fun _ => ?_) (by omega))
      · repeat (first | exact ih (k + 1) _ _ _ h3 (by omega) (by rw [hu_in_n hv]) | refine hJ _ _ _ _ ?_ | refine And.intro (by omega) (fun _ => ?_) | refine And.intro (by omega) ?_ | refine And.intro (fun _ => ?_) (by omega))
  repeat (first | refine hJ _ _ _ _ ?_ | refine And.intro (by omega) (fun _ => ?_) | refine And.intro (by omega) ?_ | refine And.intro (fun _ => ?_) (by omega))
  refine And.intro (fun hz => ?_) (fun hz => ?_)
  · repeat (first | refine hJ _ _ _ _ ?_ | refine And.intro (by omega) (fun _ => ?_) | refine And.intro (by omega) ?_ | refine And.intro (fun _ => ?_) (by omega))
    refine And.intro (fun h3 => ?_) (fun h3 => ?_)
    · repeat (first | exact loop m 0 _ _ _ (by omega) (by omega) rfl | refine hJ _ _ _ _ ?_ | refine And.intro (by omega) (fun _ => ?_) | refine And.intro (by omega) ?_ | refine And.intro (fun _ => ?_) (by omega))
    · have w0 : 0 ≤ h 29 (Int.toNat 0) ∧ h 29 (Int.toNat 0) < n ∧ pt (h 29 (Int.toNat 0)).toNat = cp 0 := hw 0 (by omega)
      have ei : (h 24 8 - 1).toNat = m - 1 := by omega
      have w1 := hw (m - 1) (by omega)
      rw [← ei] at w1
      repeat (first | refine hJ _ _ _ _ ?_ | refine And.intro (by omega) (fun _ => ?_) | refine And.intro (by omega) ?_ | refine And.intro (fun _ => ?_) (by omega))
      refine s_Mo_isOn P w0.1 w0.2.1 w1.1 w1.2.1 hx (fun g => ?_) (fun g => ?_)
      · rw [w0.2.2, w1.2.2, ei] at g
        repeat (first | refine hJ _ _ _ _ ?_ | refine And.intro (by omega) (fun _ => ?_) | refine And.intro (by omega) ?_ | refine And.intro (fun _ => ?_) (by omega))
        have e : hu_at cp m (x, y) = 0 := by
          unfold hu_at
          rw [if_neg (by omega), if_pos (by omega), if_pos g]
        rw [e] at hQ
        exact hQ
      · rw [w0.2.2, w1.2.2, ei] at g
        repeat (first | refine hJ _ _ _ _ ?_ | refine And.intro (by omega) (fun _ => ?_) | refine And.intro (by omega) ?_ | refine And.intro (fun _ => ?_) (by omega))
        have e : hu_at cp m (x, y) = -1 := by
          unfold hu_at
          rw [if_neg (by omega), if_pos (by omega), if_neg g]
        rw [e] at hQ
        exact hQ
  · repeat (first | refine hJ _ _ _ _ ?_ | refine And.intro (by omega) (fun _ => ?_) | refine And.intro (by omega) ?_ | refine And.intro (fun _ => ?_) (by omega))
    have e : hu_at cp m (x, y) = -1 := by
      unfold hu_at
      rw [if_pos (by omega)]
    rw [e] at hQ
    exact hQ
set_option maxRecDepth 20000 in
set_option maxHeartbeats 2000000 in
theorem s_Mo_markAll {E : AE} {l : Launch} {h : AH} {n : Nat} {pt : Nat → ge_P} (P : mp h n pt) {Q : AR} (hQ : Q none (aw h 28 (fun _ => 1) n)) : am_g E l 105 [.inr (.inr 24)] h Q := by
  have n60 := P.2.1
  have hn : ∀ k, aw h 28 (fun _ => 1) k 24 3 = (n : Int) := fun k => P.1
  refine am_met T_Mo_markAll (by decide) (Nat.le_of_ble_eq_true rfl) (fun J hJ => ?_)
  have loop : ∀ d p : Nat, p + d = n → J 2 [some (.inr (.inr 24)), some (.inl (p : Int))] [] (aw h 28 (fun _ => 1) p) := by
    intro d
    induction d with
    | zero =>
      intro p hp
      have hnp := hn p
      have : p = n := by omega
      subst this
      repeat (first | refine hJ _ _ _ _ ?_ | refine And.intro (by omega) (fun _ => ?_) | refine And.intro (by omega) ?_ | refine And.intro (fun _ => ?_) (by omega))
      exact hQ
    | succ d ih =>
      intro p hp
      have hnp := hn p
      have this := ih (p + 1) (by omega)
      rw [← aw_s] at this
      repeat (first | exact this | refine hJ _ _ _ _ ?_ | refine And.intro (by omega) (fun _ => ?_) | refine And.intro (by omega) ?_ | refine And.intro (fun _ => ?_) (by omega))
  have this := loop n 0 (by omega)
  rw [aw_0] at this
  repeat (first | exact this | refine hJ _ _ _ _ ?_ | refine And.intro (by omega) (fun _ => ?_) | refine And.intro (by omega) ?_ | refine And.intro (fun _ => ?_) (by omega))
theorem mp_mark {h : AH} {n : Nat} {pt : Nat → ge_P} (P : mp h n pt) : mp (aw h 28 (fun _ => 1) n) n pt := mp_cg P rfl (aw_o (by decide)) (aw_o (by decide))
theorem mm_mark {h : AH} {n : Nat} : mm (aw h 28 (fun _ => 1) n) n (fun _ => true) := fun p hp => .inl ⟨rfl, aw_i hp⟩
set_option maxRecDepth 20000 in
set_option maxHeartbeats 2000000 in
theorem s_Mo_hull {E : AE} {l : Launch} {h : AH} {n : Nat} {pt : Nat → ge_P} (P : mp h n pt) {Q : AR} (hQ : Q none (mo_wr (aw h 28 (fun _ => 1) n) (hu_w pt (fun _ => true) n) (hu_m pt (fun _ => true) n))) : am_g E l 106 [.inr (.inr 24)] h Q := by
  refine am_met T_Mo_hull (by decide) (Nat.le_of_ble_eq_true rfl) (fun J hJ => ?_)
  repeat (first | refine hJ _ _ _ _ ?_ | refine And.intro (by omega) (fun _ => ?_) | refine And.intro (by omega) ?_ | refine And.intro (fun _ => ?_) (by omega))
  refine s_Mo_markAll P ?_
  repeat (first | refine hJ _ _ _ _ ?_ | refine And.intro (by omega) (fun _ => ?_) | refine And.intro (by omega) ?_ | refine And.intro (fun _ => ?_) (by omega))
  refine s_Mo_wrap (mp_mark P) mm_mark ?_
  repeat (first | refine hJ _ _ _ _ ?_ | refine And.intro (by omega) (fun _ => ?_) | refine And.intro (by omega) ?_ | refine And.intro (fun _ => ?_) (by omega))
  exact hQ
set_option maxRecDepth 20000 in
set_option maxHeartbeats 2000000 in
theorem s_Mo_peel {E : AE} {l : Launch} {h : AH} {n : Nat} {pt : Nat → ge_P} (P : mp h n pt) {Q : AR}
    (hQ : ∀ (s : Nat) (h' : AH), ly_N pt n s → (∀ c, c ≠ 24 → c ≠ 28 → c ≠ 29 → c ≠ 30 → h' c = h c) → (∀ j, j ≠ 8 → h' 24 j = h 24 j) → (∀ i, i < n → h' 30 i = ly_l pt n (h 30) s i) → Q (some (.inl (s : Int))) h') : am_g E l 107 [.inr (.inr 24)] h Q := by
  have n60 := P.2.1
  refine am_met T_Mo_peel (by decide) (Nat.le_of_ble_eq_true rfl) (fun J hJ => ?_)
  have loop : ∀ d s : Nat, ∀ (g : AH) (left : Int) (x y : Option AV), s + d = n + 1 → (∀ c, c ≠ 24 → c ≠ 28 → c ≠ 29 → c ≠ 30 → g c = h c) → (∀ j, j ≠ 8 → g 24 j = h 24 j) → mm g n (ly_k pt n s) → (∀ i, i < n → g 30 i = ly_l pt n (h 30) s i) → left = ly_c pt n s → (∀ s', s' < s → 0 < ly_c pt n s') → J 11 [some (.inr (.inr 24)), some (.inl (s : Int)), some (.inl left), x, y] [] g := by
    intro d
    induction d with
    | zero =>
      intro s g left x y hd hg g24 gm gl hl hpos
      have hb := ly_c_b pt n s
      have hle := ly_c_le s hpos
      omega
    | succ d ih =>
      intro s g left x y hd hg g24 gm gl hl hpos
      have hb := ly_c_b pt n s
      have gP : mp g n pt := mp_cg P (g24 3 (by decide)) (hg 25 (by decide) (by decide) (by decide) (by decide)) (hg 26 (by decide) (by decide) (by decide) (by decide))
      repeat (first | refine hJ _ _ _ _ ?_ | refine And.intro (by omega) (fun _ => ?_) | refine And.intro (by omega) ?_ | refine And.intro (fun _ => ?_) (by omega))
      refine And.intro (fun hz => ?_) (fun hz => ?_)
      · repeat (first | refine hJ _ _ _ _ ?_ | refine And.intro (by omega) (fun _ => ?_) | refine And.intro (by omega) ?_ | refine And.intro (fun _ => ?_) (by omega))
        exact hQ s g ⟨by omega, hpos⟩ hg g24 gl
      · repeat (first | refine hJ _ _ _ _ ?_ | refine And.intro (by omega) (fun _ => ?_) | refine And.intro (by omega) ?_ | refine And.intro (fun _ => ?_) (by omega))
        refine s_Mo_wrap gP gm ?_
        have P1 : mp (mo_wr g (hu_w pt (ly_k pt n s) n) (hu_m pt (ly_k pt n s) n)) n pt := mo_wr_mp gP
        have K1 := mk_wr (h := g) (pt := pt) (mk := ly_k pt n s) n60
        have m1 : mm (mo_wr g (hu_w pt (ly_k pt n s) n) (hu_m pt (ly_k pt n s) n)) n (ly_k pt n s) := mo_wr_mm gm
        have o1 : ∀ c, c ≠ 24 → c ≠ 29 → mo_wr g (hu_w pt (ly_k pt n s) n) (hu_m pt (ly_k pt n s) n) c = g c := fun c c1 c2 => mo_wr_o c1 c2
        have o24 : ∀ j, j ≠ 8 → mo_wr g (hu_w pt (ly_k pt n s) n) (hu_m pt (ly_k pt n s) n) 24 j = g 24 j := fun j c1 => mo_wr_24 c1
        generalize mo_wr g (hu_w pt (ly_k pt n s) n) (hu_m pt (ly_k pt n s) n) = g1 at P1 K1 m1 o1 o24 ⊢
        have hav : ∀ k, -1 ≤ hu_a pt (ly_k pt n s) n (pt k) ∧ hu_a pt (ly_k pt n s) n (pt k) ≤ 1 := fun k => hu_at_v _ _ _
        have fG : ∀ i, (fun i : Nat => if ly_g pt n s i then (s : Int) else g 30 i) i = if ly_g pt n s i then (s : Int) else g 30 i := fun _ => rfl
        generalize hG : (fun i : Nat => if ly_g pt n s i then (s : Int) else g 30 i) = G at fG
        have fF : ∀ i, (fun i : Nat => if ly_k pt n (s + 1) i = true then (1 : Int) else 0) i = if ly_k pt n (s + 1) i = true then (1 : Int) else 0 := fun _ => rfl
        generalize hF : (fun i : Nat => if ly_k pt n (s + 1) i = true then (1 : Int) else 0) = F at fF
        have P2 : ∀ k, mp (aw g1 30 G k) n pt := fun k => mp_cg P1 (by rw [aw_o (by decide)]) (aw_o (by decide)) (aw_o (by decide))
        have K2 : ∀ k, mk_h (aw g1 30 G k) n (hu_m pt (ly_k pt n s) n) pt (hu_p pt (ly_k pt n s) n) := fun k => mk_cg K1 (by rw [aw_o (by decide)]) (aw_o (by decide))
        have P3 : ∀ k, mp (aw (aw g1 30 G n) 28 F k) n pt := fun k => mp_cg (P2 n) (by rw [aw_o (by decide)]) (aw_o (by decide)) (aw_o (by decide))
        have K3 : ∀ k, mk_h (aw (aw g1 30 G n) 28 F k) n (hu_m pt (ly_k pt n s) n) pt (hu_p pt (ly_k pt n s) n) := fun k => mk_cg (K2 n) (by rw [aw_o (by decide)]) (aw_o (by decide))
        have second : ∀ e k : Nat, ∀ (left : Int) (y : Option AV), k + e = n → left = ly_c pt n (s + 1) → J 106 [some (.inr (.inr 24)), some (.inl (s : Int)), some (.inl left), some (.inl (k : Int)), y] [] (aw (aw g1 30 G n) 28 F k) := by
          intro e
          induction e with
          | zero =>
            intro k left y hk hl
            have : k = n := by omega
            subst this
            have hn := (P3 k).1
            repeat (first | refine ih (s + 1) _ _ _ _ (by omega) ?_ ?_ ?_ ?_ hl ?_ | refine hJ _ _ _ _ ?_ | refine And.intro (by omega) (fun _ => ?_) | refine And.intro (by omega) ?_ | refine And.intro (fun _ => ?_) (by omega))
            · intro c c1 c2 c3 c4
              rw [aw_o c2, aw_o c4, o1 c c1 c3]
              exact hg c c1 c2 c3 c4
            · intro j hj
              rw [aw_o (by decide), aw_o (by decide), o24 j hj]
              exact g24 j hj
            · intro p hp
              rw [aw_i hp, fF]
              by_cases hk : ly_k pt k (s + 1) p = true
              · rw [if_pos hk]; exact .inl ⟨hk, rfl⟩
              · rw [if_neg hk]; exact .inr ⟨hk, rfl⟩
            · intro i hi
              rw [aw_o (by decide), aw_i hi, fG, gl i hi]
              rfl
            · intro s' hs'
              rcases (show s' = s ∨ s' < s by omega) with q | q
              · subst q; omega
              · exact hpos s' q
          | succ e ih2 =>
            intro k left y hk hl
            have hn := (P3 k).1
            have rk := mp_i (P3 k) (i := (k : Int)) (by omega) (by omega)
            have e28 : aw (aw g1 30 G n) 28 F k 28 k = g1 28 k := by
              have e1 : aw (aw g1 30 G n) 28 F k 28 k = aw g1 30 G n 28 k := by simp [aw]
              rw [e1, aw_o (by decide)]
            have this := ih2 (k + 1) left y (by omega) hl
            rw [← aw_s, fF] at this
            have hmk : (ly_k pt n s k = true ∧ aw (aw g1 30 G n) 28 F k 28 (Int.toNat (k : Int)) = 1) ∨ (¬ ly_k pt n s k = true ∧ aw (aw g1 30 G n) 28 F k 28 (Int.toNat (k : Int)) = 0) := by
              have := m1 k (by omega)
              rw [← e28] at this
              exact this
            rcases hmk with ⟨hmk, hv⟩ | ⟨hmk, hv⟩
            · repeat (first | refine hJ _ _ _ _ ?_ | refine And.intro (by omega) (fun _ => ?_) | refine And.intro (by omega) ?_ | refine And.intro (fun _ => ?_) (by omega))
              refine s_Mo_whereIs (P3 k) (K3 k) (by unfold pd_in; omega) ?_
              rw [rk.1, rk.2.1]
              have eat : hu_at (hu_p pt (ly_k pt n s) n) (hu_m pt (ly_k pt n s) n) ((pt (k : Int).toNat).1, (pt (k : Int).toNat).2) = hu_a pt (ly_k pt n s) n (pt k) := rfl
              rw [eat]
              have hak := hav k
              repeat (first | refine hJ _ _ _ _ ?_ | refine And.intro (by omega) (fun _ => ?_) | refine And.intro (by omega) ?_ | refine And.intro (fun _ => ?_) (by omega))
              refine And.intro (fun hz2 => ?_) (fun hz2 => ?_)
              · rw [if_neg (fun q => (ly_k_s.mp q).2 hz2)] at this
                repeat (first | exact this | refine hJ _ _ _ _ ?_ | refine And.intro (by omega) (fun _ => ?_) | refine And.intro (by omega) ?_ | refine And.intro (fun _ => ?_) (by omega))
              · rw [if_pos (ly_k_s.mpr ⟨hmk, hz2⟩)] at this
                repeat (first | exact this | refine hJ _ _ _ _ ?_ | refine And.intro (by omega) (fun _ => ?_) | refine And.intro (by omega) ?_ | refine And.intro (fun _ => ?_) (by omega))
            · rw [if_neg (fun q => hmk (ly_k_s.mp q).1)] at this
              repeat (first | exact this | refine hJ _ _ _ _ ?_ | refine And.intro (by omega) (fun _ => ?_) | refine And.intro (by omega) ?_ | refine And.intro (fun _ => ?_) (by omega))
        have first : ∀ e k : Nat, ∀ (left : Int) (y : Option AV), k + e = n → left = ly_c pt n s - su (ly_t pt n s) 0 k → J 21 [some (.inr (.inr 24)), some (.inl (s : Int)), some (.inl left), some (.inl (k : Int)), y] [] (aw g1 30 G k) := by
          intro e
          induction e with
          | zero =>
            intro k left y hk hl
            have : k = n := by omega
            subst this
            have hn := (P2 k).1
            have this := second k 0 left y (by omega) (by rw [ly_c_s]; exact hl)
            rw [aw_0] at this
            repeat (first | exact this | refine hJ _ _ _ _ ?_ | refine And.intro (by omega) (fun _ => ?_) | refine And.intro (by omega) ?_ | refine And.intro (fun _ => ?_) (by omega))
          | succ e ih1 =>
            intro k left y hk hl
            have hn := (P2 k).1
            have rk := mp_i (P2 k) (i := (k : Int)) (by omega) (by omega)
            have e28 : aw g1 30 G k 28 k = g1 28 k := by rw [aw_o (by decide)]
            have e30 : aw g1 30 G k 30 (Int.toNat (k : Int)) = g 30 k := by
              have e1 : aw g1 30 G k 30 k = g1 30 k := by simp [aw]
              have e2 := o1 30 (by decide) (by decide)
              rw [e2] at e1
              exact e1
            have hmk : (ly_k pt n s k = true ∧ aw g1 30 G k 28 (Int.toNat (k : Int)) = 1) ∨ (¬ ly_k pt n s k = true ∧ aw g1 30 G k 28 (Int.toNat (k : Int)) = 0) := by
              have := m1 k (by omega)
              rw [← e28] at this
              exact this
            have stay : ¬ ly_g pt n s k → ∀ z : Option AV, J 21 [some (.inr (.inr 24)), some (.inl (s : Int)), some (.inl left), some (.inl ((k : Int) + 1)), z] [] (am_up (aw g1 30 G k) 30 (Int.toNat (k : Int)) (aw g1 30 G k 30 (Int.toNat (k : Int)))) := fun hgo z => by
              have e : ly_t pt n s k = 0 := if_neg hgo
              have this := ih1 (k + 1) left z (by omega) (by rw [su_s (by omega)]; omega)
              rw [← aw_s, fG, if_neg hgo, ← e30] at this
              exact this
            have gone : ly_g pt n s k → ∀ z : Option AV, J 21 [some (.inr (.inr 24)), some (.inl (s : Int)), some (.inl (left - 1)), some (.inl ((k : Int) + 1)), z] [] (am_up (aw g1 30 G k) 30 (Int.toNat (k : Int)) (s : Int)) := fun hgo z => by
              have e : ly_t pt n s k = 1 := if_pos hgo
              have this := ih1 (k + 1) (left - 1) z (by omega) (by rw [su_s (by omega)]; omega)
              rw [← aw_s, fG, if_pos hgo] at this
              exact this
            rcases hmk with ⟨hmk, hv⟩ | ⟨hmk, hv⟩
            · repeat (first | refine hJ _ _ _ _ ?_ | refine And.intro (by omega) (fun _ => ?_) | refine And.intro (by omega) ?_ | refine And.intro (fun _ => ?_) (by omega))
              refine s_Mo_whereIs (P2 k) (K2 k) (by unfold pd_in; omega) ?_
              rw [rk.1, rk.2.1]
              have eat : hu_at (hu_p pt (ly_k pt n s) n) (hu_m pt (ly_k pt n s) n) ((pt (k : Int).toNat).1, (pt (k : Int).toNat).2) = hu_a pt (ly_k pt n s) n (pt k) := rfl
              rw [eat]
              have hak := hav k
              repeat (first | refine hJ _ _ _ _ ?_ | refine And.intro (by omega) (fun _ => ?_) | refine And.intro (by omega) ?_ | refine And.intro (fun _ => ?_) (by omega))
              refine And.intro (fun hz2 => ?_) (fun hz2 => ?_)
              · repeat (first | exact stay (fun q => hz2 q.2) _ | refine hJ _ _ _ _ ?_ | refine And.intro (by omega) (fun _ => ?_) | refine And.intro (by omega) ?_ | refine And.intro (fun _ => ?_) (by omega))
              · repeat (first | exact gone ⟨hmk, hz2⟩ _ | refine hJ _ _ _ _ ?_ | refine And.intro (by omega) (fun _ => ?_) | refine And.intro (by omega) ?_ | refine And.intro (fun _ => ?_) (by omega))
            · repeat (first | exact stay (fun q => hmk q.1) _ | refine hJ _ _ _ _ ?_ | refine And.intro (by omega) (fun _ => ?_) | refine And.intro (by omega) ?_ | refine And.intro (fun _ => ?_) (by omega))
        have this := first n 0 left y (by omega) (by rw [su_0 (by omega)]; omega)
        rw [aw_0] at this
        repeat (first | exact this | refine hJ _ _ _ _ ?_ | refine And.intro (by omega) (fun _ => ?_) | refine And.intro (by omega) ?_ | refine And.intro (fun _ => ?_) (by omega))
  repeat (first | refine hJ _ _ _ _ ?_ | refine And.intro (by omega) (fun _ => ?_) | refine And.intro (by omega) ?_ | refine And.intro (fun _ => ?_) (by omega))
  refine s_Mo_markAll P ?_
  have e24 : ∀ j, aw h 28 (fun _ => 1) n 24 j = h 24 j := fun j => rfl
  have en : aw h 28 (fun _ => 1) n 24 3 = (n : Int) := P.1
  repeat (first | refine loop (n + 1) 0 _ _ _ _ (by omega) ?_ ?_ ?_ ?_ ?_ ?_ | refine hJ _ _ _ _ ?_ | refine And.intro (by omega) (fun _ => ?_) | refine And.intro (by omega) ?_ | refine And.intro (fun _ => ?_) (by omega))
  · intro c c1 c2 c3 c4
    exact aw_o c2
  · intro j _
    exact e24 j
  · exact mm_mark
  · intro i hi
    rfl
  · rw [ly_c_0, en]
  · intro s' hs'
    exact absurd hs' (Nat.not_lt_zero _)
set_option maxRecDepth 20000 in
set_option maxHeartbeats 2000000 in
theorem s_Mo_lines {E : AE} {l : Launch} {h : AH} {n : Nat} {pt : Nat → ge_P} (P : mp h n pt) {Q : AR} (hQ : Q (some (.inl (su (fun i => su (fun k => su (tl pt i k) (k + 1) n) (i + 1) n) 0 n))) h) : am_g E l 108 [.inr (.inr 24)] h Q := by
  have hn2 := P.2.1
  have hn := P.1
  refine am_met T_Mo_lines (by decide) (Nat.le_of_ble_eq_true rfl) (fun J hJ => ?_)
  have outer : ∀ d p : Nat, ∀ (acc : Int) (x y : Option AV), p + d = n → acc = su (fun i => su (fun k => su (tl pt i k) (k + 1) n) (i + 1) n) 0 p → J 4 [some (.inr (.inr 24)), some (.inl acc), some (.inl (p : Int)), x, y] [] h := by
    intro d
    induction d with
    | zero =>
      intro p acc x y hp ha
      repeat (first | refine hJ _ _ _ _ ?_ | refine And.intro (by omega) (fun _ => ?_) | refine And.intro (by omega) ?_ | refine And.intro (fun _ => ?_) (by omega))
      have : p = n := by omega
      subst this
      rw [ha]
      exact hQ
    | succ d oih =>
      intro p acc x y hp ha
      have mid : ∀ e q : Nat, ∀ (acc : Int) (y : Option AV), q + e = n → p + 1 ≤ q → acc = su (fun i => su (fun k => su (tl pt i k) (k + 1) n) (i + 1) n) 0 p + su (fun k => su (tl pt p k) (k + 1) n) (p + 1) q → J 16 [some (.inr (.inr 24)), some (.inl acc), some (.inl (p : Int)), some (.inl (q : Int)), y] [] h := by
        intro e
        induction e with
        | zero =>
          intro q acc y hq hpq ha
          have : q = n := by omega
          subst this
          repeat (first | exact oih (p + 1) _ _ _ (by omega) (by rw [su_s (by omega)]; exact ha) | refine hJ _ _ _ _ ?_ | refine And.intro (by omega) (fun _ => ?_) | refine And.intro (by omega) ?_ | refine And.intro (fun _ => ?_) (by omega))
        | succ e mih =>
          intro q acc y hq hpq ha
          have inner : ∀ f r : Nat, ∀ acc : Int, r + f = n → q + 1 ≤ r → acc = su (fun i => su (fun k => su (tl pt i k) (k + 1) n) (i + 1) n) 0 p + su (fun k => su (tl pt p k) (k + 1) n) (p + 1) q + su (tl pt p q) (q + 1) r → J 29 [some (.inr (.inr 24)), some (.inl acc), some (.inl (p : Int)), some (.inl (q : Int)), some (.inl (r : Int))] [] h := by
            intro f
            induction f with
            | zero =>
              intro r acc hr hqr ha
              have : r = n := by omega
              subst this
              repeat (first | exact mih (q + 1) _ _ (by omega) (by omega) (by rw [su_s hpq]; omega) | refine hJ _ _ _ _ ?_ | refine And.intro (by omega) (fun _ => ?_) | refine And.intro (by omega) ?_ | refine And.intro (fun _ => ?_) (by omega))
            | succ f ih =>
              intro r acc hr hqr ha
              have hb := mp_x (mp_i P (i := (p : Int)) (by omega) (by omega)).2.2 (mp_i P (i := (q : Int)) (by omega) (by omega)).2.2 (mp_i P (i := (r : Int)) (by omega) (by omega)).2.2
              repeat (first | refine hJ _ _ _ _ ?_ | refine And.intro (by omega) (fun _ => ?_) | refine And.intro (by omega) ?_ | refine And.intro (fun _ => ?_) (by omega))
              refine s_Mo_turnOf P (by omega) (by omega) (by omega) (by omega) (by omega) (by omega) ?_
              repeat (first | refine hJ _ _ _ _ ?_ | refine And.intro (by omega) (fun _ => ?_) | refine And.intro (by omega) ?_ | refine And.intro (fun _ => ?_) (by omega))
              refine And.intro (fun hs => ?_) (fun hs => ?_)
              · have e1 : tl pt p q r = 0 := if_neg hs
                repeat (first | exact ih (r + 1) _ (by omega) (by omega) (by rw [su_s hqr]; omega) | refine hJ _ _ _ _ ?_ | refine And.intro (by omega) (fun _ => ?_) | refine And.intro (by omega) ?_ | refine And.intro (fun _ => ?_) (by omega))
              · have e1 : tl pt p q r = 1 := if_pos hs
                repeat (first | exact ih (r + 1) _ (by omega) (by omega) (by rw [su_s hqr]; omega) | refine hJ _ _ _ _ ?_ | refine And.intro (by omega) (fun _ => ?_) | refine And.intro (by omega) ?_ | refine And.intro (fun _ => ?_) (by omega))
          repeat (first | exact inner (n - (q + 1)) (q + 1) _ (by omega) (by omega) (by rw [su_0 (Nat.le_refl (q + 1))]; omega) | refine hJ _ _ _ _ ?_ | refine And.intro (by omega) (fun _ => ?_) | refine And.intro (by omega) ?_ | refine And.intro (fun _ => ?_) (by omega))
      repeat (first | exact mid (n - (p + 1)) (p + 1) _ _ (by omega) (by omega) (by rw [su_0 (Nat.le_refl (p + 1))]; omega) | refine hJ _ _ _ _ ?_ | refine And.intro (by omega) (fun _ => ?_) | refine And.intro (by omega) ?_ | refine And.intro (fun _ => ?_) (by omega))
  repeat (first | exact outer n 0 _ _ _ (by omega) (by rw [su_0 (by omega)]) | refine hJ _ _ _ _ ?_ | refine And.intro (by omega) (fun _ => ?_) | refine And.intro (by omega) ?_ | refine And.intro (fun _ => ?_) (by omega))
