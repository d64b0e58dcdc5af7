/-! the class: layers -/
/-- what the shell's walk leaves behind -/
theorem hk_wr {h : AH} {c n : Nat} {mk : Nat → Bool} (hn : n ≤ 60) : hk (pd_wr h c (hu_w (pd_q h) mk n) (hu_m (pd_q h) mk n)) c (hu_m (pd_q h) mk n) (hu_p (pd_q h) mk n) ∨ ¬ (c = 4 ∨ c = 14) := by
  by_cases hc : c = 4 ∨ c = 14
  · left
    have hN := hu_m_N (pd_q h) mk n
    have hle := hu_m_le (pd_q h) mk n
    refine ⟨?_, by omega, fun j hj => ?_⟩
    · rcases hc with rfl | rfl <;> simp [pd_wr]
    · have e : pd_wr h c (hu_w (pd_q h) mk n) (hu_m (pd_q h) mk n) (c + 2) j = hu_w (pd_q h) mk n j := by
        rcases hc with rfl | rfl <;> simp [pd_wr, hj]
      have h0 := hN.2 j hj
      have h1 := (hu_w_ok (pd_q h) mk n j h0).1
      rw [e, pd_p_q, pd_wr_q hc]
      exact ⟨h0, by omega, rfl⟩
  · exact .inr hc
set_option maxRecDepth 20000 in
set_option maxHeartbeats 2000000 in
theorem s_La_takeOff {E : AE} {l : Launch} {h : AH} (H : pd_ok h) {n : Nat} (hn : h 1 2 = (n : Int)) (hn2 : n ≤ 60) {mk : Nat → Bool} (hm : pd_lo h 14) (hmk : ∀ i, i < n → pd_m h 14 i = mk i) {s : Nat} (hs : h 12 3 = (s : Int)) {Q : AR}
    (hQ : ∀ h' : AH, (∀ c, c ≠ 13 → c ≠ 14 → c ≠ 15 → c ≠ 16 → h' c = h c) → pd_lo h' 14 → (∀ i, i < n → h' 15 i = if mk i = true ∧ hu_a (pd_q h) mk n (pd_q h i) = 0 then 1 else h 15 i) → (∀ i, i < n → h' 13 i = if mk i = true ∧ hu_a (pd_q h) mk n (pd_q h i) = 0 then (s : Int) else h 13 i) → Q (some (.inl (su (fun i => if mk i = true ∧ hu_a (pd_q h) mk n (pd_q h i) = 0 then 1 else 0) 0 n))) h') : am_g E l 22 [.inr (.inr 12)] h Q := by
  have K : hk (pd_wr h 14 (hu_w (pd_q h) mk n) (hu_m (pd_q h) mk n)) 14 (hu_m (pd_q h) mk n) (hu_p (pd_q h) mk n) := (hk_wr hn2).resolve_right (fun g => g (.inr rfl))
  have hpp : ∀ i, i < n → pd_q h i = pd_q h i := fun _ _ => rfl
  have ew : hu_w (pd_q h) (pd_m h 14) n = hu_w (pd_q h) mk n := funext (fun k => hu_w_congr hpp hmk k)
  generalize hg1 : pd_wr h 14 (hu_w (pd_q h) mk n) (hu_m (pd_q h) mk n) = g1 at K
  have g1o : ∀ c, c ≠ 14 → c ≠ 16 → g1 c = h c := fun c c1 c2 => by
    subst hg1
    funext j
    simp [pd_wr, c1, c2]
  have H1 : pd_ok g1 := fun i hi => by rw [g1o 2 (by decide) (by decide), g1o 3 (by decide) (by decide)]; exact H i hi
  refine am_met T_La_takeOffBorder (by decide) (Nat.le_of_ble_eq_true rfl) (fun J hJ => ?_)
  have f15 : ∀ i, (fun i : Nat => if mk i = true ∧ hu_a (pd_q h) mk n (pd_q h i) = 0 then 1 else h 15 i) i = if mk i = true ∧ hu_a (pd_q h) mk n (pd_q h i) = 0 then 1 else h 15 i := fun _ => rfl
  generalize hF : (fun i : Nat => if mk i = true ∧ hu_a (pd_q h) mk n (pd_q h i) = 0 then (1 : Int) else h 15 i) = F at f15
  have f13 : ∀ i, (fun i : Nat => if mk i = true ∧ hu_a (pd_q h) mk n (pd_q h i) = 0 then (s : Int) else h 13 i) i = if mk i = true ∧ hu_a (pd_q h) mk n (pd_q h i) = 0 then (s : Int) else h 13 i := fun _ => rfl
  generalize hG : (fun i : Nat => if mk i = true ∧ hu_a (pd_q h) mk n (pd_q h i) = 0 then (s : Int) else h 13 i) = G at f13
  have loop : ∀ d k : Nat, ∀ acc : Int, k + d = n → acc = su (fun i => if mk i = true ∧ hu_a (pd_q h) mk n (pd_q h i) = 0 then 1 else 0) 0 k → J 11 [some (.inr (.inr 12)), some (.inl acc), some (.inl (k : Int))] [] (aw (aw g1 13 G k) 15 F k) := by
    intro d
    induction d with
    | zero =>
      intro k acc hkd ha
      have : k = n := by omega
      subst this
      have en : aw (aw g1 13 G k) 15 F k 1 2 = (k : Int) := by rw [aw_o (by decide), aw_o (by decide), g1o 1 (by decide) (by decide)]; exact hn
      repeat (first | refine hJ _ _ _ _ ?_ | refine And.intro (by omega) (fun _ => ?_) | refine And.intro (by omega) ?_ | refine And.intro (fun _ => ?_) (by omega))
      rw [ha]
      refine hQ _ (fun c c1 c2 c3 c4 => ?_) (fun i hi => ?_) (fun i hi => ?_) (fun i hi => ?_)
      · rw [aw_o c3, aw_o c1, g1o c c2 c4]
      · show aw (aw g1 13 G k) 15 F k 15 i = 0 ∨ aw (aw g1 13 G k) 15 F k 15 i = 1
        by_cases hik : i < k
        · rw [aw_i hik, f15]
          have : h 15 i = 0 ∨ h 15 i = 1 := hm i hi
          split
          · exact .inr rfl
          · exact this
        · have e : aw (aw g1 13 G k) 15 F k 15 i = h 15 i := by
            have e1 : aw (aw g1 13 G k) 15 F k 15 i = aw g1 13 G k 15 i := by simp [aw, hik]
            rw [e1, aw_o (by decide), g1o 15 (by decide) (by decide)]
          rw [e]
          exact hm i hi
      · rw [aw_i hi, f15]
      · rw [aw_o (by decide), aw_i hi, f13]
    | succ d ih =>
      intro k acc hkd ha
      have en : aw (aw g1 13 G k) 15 F k 1 2 = (n : Int) := by rw [aw_o (by decide), aw_o (by decide), g1o 1 (by decide) (by decide)]; exact hn
      have es : aw (aw g1 13 G k) 15 F k 12 3 = (s : Int) := by rw [aw_o (by decide), aw_o (by decide), g1o 12 (by decide) (by decide)]; exact hs
      have e15 : aw (aw g1 13 G k) 15 F k 15 k = h 15 k := by
        have e1 : aw (aw g1 13 G k) 15 F k 15 k = aw g1 13 G k 15 k := by simp [aw]
        rw [e1, aw_o (by decide), g1o 15 (by decide) (by decide)]
      have hq : pd_q (aw (aw g1 13 G k) 15 F k) = pd_q h := by
        funext i
        unfold pd_q
        rw [aw_o (by decide), aw_o (by decide), g1o 2 (by decide) (by decide), aw_o (by decide), aw_o (by decide), g1o 3 (by decide) (by decide)]
      have H2 : pd_ok (aw (aw g1 13 G k) 15 F k) := fun i hi => by rw [aw_o (by decide), aw_o (by decide), aw_o (by decide), aw_o (by decide)]; exact H1 i hi
      have K2 : hk (aw (aw g1 13 G k) 15 F k) 14 (hu_m (pd_q h) mk n) (hu_p (pd_q h) mk n) := by
        refine ⟨?_, K.2.1, fun j hj => ?_⟩
        · rw [aw_o (by decide), aw_o (by decide)]; exact K.1
        · have := K.2.2 j hj
          have e1 : pd_q g1 = pd_q h := by
            funext i
            unfold pd_q
            rw [g1o 2 (by decide) (by decide), g1o 3 (by decide) (by decide)]
          rw [aw_o (by decide), aw_o (by decide), pd_p_q, hq]
          rw [pd_p_q, e1] at this
          exact this
      have hl2 : pd_lo (aw (aw g1 13 G k) 15 F k) 14 := fun i hi => by
        show aw (aw g1 13 G k) 15 F k 15 i = 0 ∨ aw (aw g1 13 G k) 15 F k 15 i = 1
        by_cases hik : i < k
        · rw [aw_i hik, f15]
          have : h 15 i = 0 ∨ h 15 i = 1 := hm i hi
          split
          · exact .inr rfl
          · exact this
        · have e : aw (aw g1 13 G k) 15 F k 15 i = h 15 i := by
            have e1 : aw (aw g1 13 G k) 15 F k 15 i = aw g1 13 G k 15 i := by simp [aw, hik]
            rw [e1, aw_o (by decide), g1o 15 (by decide) (by decide)]
          rw [e]
          exact hm i hi
      have emk : pd_m (aw (aw g1 13 G k) 15 F k) 14 k = true ↔ mk k = true := by
        rw [← hmk k (by omega), pd_m_t, pd_m_t]
        show aw (aw g1 13 G k) 15 F k 15 k = 0 ↔ h 15 k = 0
        rw [e15]
      have eat : hu_at (hu_p (pd_q h) mk n) (hu_m (pd_q h) mk n) (pd_p (aw (aw g1 13 G k) 15 F k) (k : Int)) = hu_a (pd_q h) mk n (pd_q h k) := by
        rw [pd_p_q, hq]; rfl
      have hav := hu_at_v (hu_p (pd_q h) mk n) (hu_m (pd_q h) mk n) (pd_q h k)
      have hav : -1 ≤ hu_a (pd_q h) mk n (pd_q h k) ∧ hu_a (pd_q h) mk n (pd_q h k) ≤ 1 := hav
      have same : ¬ (mk k = true ∧ hu_a (pd_q h) mk n (pd_q h k) = 0) → J 11 [some (.inr (.inr 12)), some (.inl acc), some (.inl ((k : Int) + 1))] [] (aw (aw g1 13 G k) 15 F k) := fun hg => by
        have this := ih (k + 1) acc (by omega) (by rw [su_s (by omega), if_neg hg]; omega)
        have eA : aw g1 13 G (k + 1) = aw g1 13 G k := aw_e _ _ _ _ (by rw [f13, if_neg hg, g1o 13 (by decide) (by decide)])
        rw [eA, aw_e (aw g1 13 G k) 15 F k (by rw [f15, if_neg hg, aw_o (by decide), g1o 15 (by decide) (by decide)])] at this
        exact this
      repeat (first | refine hJ _ _ _ _ ?_ | refine And.intro (by omega) (fun _ => ?_) | refine And.intro (by omega) ?_ | refine And.intro (fun _ => ?_) (by omega))
      refine s_Hu_takesIn (.inr rfl) hl2 (by omega) (by omega) (fun ht => ?_) (fun ht => ?_)
      · have hmt : mk k = true := emk.mp ht
        repeat (first | refine hJ _ _ _ _ ?_ | refine And.intro (by omega) (fun _ => ?_) | refine And.intro (by omega) ?_ | refine And.intro (fun _ => ?_) (by omega))
        refine s_Hu_holds (.inr rfl) H2 K2 (by omega) (by omega) ?_
        rw [eat]
        repeat (first | refine hJ _ _ _ _ ?_ | refine And.intro (by omega) (fun _ => ?_) | refine And.intro (by omega) ?_ | refine And.intro (fun _ => ?_) (by omega))
        refine And.intro (fun hz => ?_) (fun hz => ?_)
        · repeat (first | exact same (fun g => hz g.2) | refine hJ _ _ _ _ ?_ | refine And.intro (by omega) (fun _ => ?_) | refine And.intro (by omega) ?_ | refine And.intro (fun _ => ?_) (by omega))
        · have this := ih (k + 1) (acc + 1) (by omega) (by rw [su_s (by omega), if_pos ⟨hmt, hz⟩]; omega)
          have eU : am_up (am_up (aw (aw g1 13 G k) 15 F k) 13 k (s : Int)) 15 k 1 = aw (aw g1 13 G (k + 1)) 15 F (k + 1) := by
            rw [← aw_s, ← aw_s, f13, f15, if_pos ⟨hmt, hz⟩, if_pos ⟨hmt, hz⟩]
            funext q j
            simp only [am_up, aw]
            grind
          rw [← eU, ← es] at this
          repeat (first | refine hJ _ _ _ _ ?_ | refine And.intro (by omega) (fun _ => ?_) | refine And.intro (by omega) ?_ | refine And.intro (fun _ => ?_) (by omega))
          refine s_Hu_leaveOut (.inr rfl) (by omega) (by omega) ?_
          repeat (first | exact this | refine hJ _ _ _ _ ?_ | refine And.intro (by omega) (fun _ => ?_) | refine And.intro (by omega) ?_ | refine And.intro (fun _ => ?_) (by omega))
      · repeat (first | exact same (fun g => ht (emk.mpr g.1)) | refine hJ _ _ _ _ ?_ | refine And.intro (by omega) (fun _ => ?_) | refine And.intro (by omega) ?_ | refine And.intro (fun _ => ?_) (by omega))
  repeat (first | refine hJ _ _ _ _ ?_ | refine And.intro (by omega) (fun _ => ?_) | refine And.intro (by omega) ?_ | refine And.intro (fun _ => ?_) (by omega))
  refine s_Hu_wrap (.inr rfl) H hm hn hn2 (fun m m1 m2 m3 => ?_)
  rw [ew] at m2 m3 ⊢
  have em : m = hu_m (pd_q h) mk n := hu_N_uniq ⟨m2, m3⟩ (hu_m_N _ _ _)
  subst em
  rw [hg1]
  have this := loop n 0 0 (by omega) (by rw [su_0 (by omega)])
  rw [aw_0, aw_0] at this
  repeat (first | exact this | refine hJ _ _ _ _ ?_ | refine And.intro (by omega) (fun _ => ?_) | refine And.intro (by omega) ?_ | refine And.intro (fun _ => ?_) (by omega))
set_option maxRecDepth 20000 in
set_option maxHeartbeats 2000000 in
theorem s_La_refresh {E : AE} {l : Launch} {h : AH} (H : pd_ok h) {n : Nat} (hn : h 1 2 = (n : Int)) (hn2 : n ≤ 60) (v1 : 0 ≤ h 12 4) (v2 : h 12 4 < 2147483648) (v3 : 0 ≤ h 1 3) (v4 : h 1 3 < 2147483648) {Q : AR} (hsame : h 12 4 = h 1 3 → Q none h)
    (hnew : ¬ h 12 4 = h 1 3 → ∀ (h' : AH) (s : Nat), (∀ c, c ≠ 12 → c ≠ 13 → c ≠ 14 → c ≠ 15 → c ≠ 16 → h' c = h c) → h' 12 4 = h 1 3 → ly_N (pd_q h) n s → h' 12 3 = (s : Int) → (∀ i, i < n → h' 13 i = ly_l (pd_q h) n (h 13) s i) → Q none h') : am_g E l 23 [.inr (.inr 12)] h Q := by
  refine am_met T_La_refresh (by decide) (Nat.le_of_ble_eq_true rfl) (fun J hJ => ?_)
  repeat (first | refine hJ _ _ _ _ ?_ | refine And.intro (by omega) (fun _ => ?_) | refine And.intro (by omega) ?_ | refine And.intro (fun _ => ?_) (by omega))
  refine And.intro (fun hv => ?_) (fun hv => ?_)
  · have loop : ∀ d s : Nat, ∀ (g : AH) (left : Int), s + d = 60 → (∀ c, c ≠ 12 → c ≠ 13 → c ≠ 14 → c ≠ 15 → c ≠ 16 → g c = h c) → g 12 3 = (s : Int) → pd_lo g 14 → (∀ i, i < n → pd_m g 14 i = ly_k (pd_q h) n s i) → (∀ i, i < n → g 13 i = ly_l (pd_q h) n (h 13) s i) → left = ly_c (pd_q h) n s → (∀ s', s' < s → 0 < ly_c (pd_q h) n s') → J 37 [some (.inr (.inr 12)), some (.inl left), some (.inl (s : Int))] [] g := by
      have fin : ∀ (s : Nat) (g : AH) (left : Int), (∀ c, c ≠ 12 → c ≠ 13 → c ≠ 14 → c ≠ 15 → c ≠ 16 → g c = h c) → g 12 3 = (s : Int) → (∀ i, i < n → g 13 i = ly_l (pd_q h) n (h 13) s i) → ly_N (pd_q h) n s → J 70 [some (.inr (.inr 12)), some (.inl left), some (.inl (s : Int))] [] g := by
        intro s g left hg gs gl hN
        repeat (first | refine hJ _ _ _ _ ?_ | refine And.intro (by omega) (fun _ => ?_) | refine And.intro (by omega) ?_ | refine And.intro (fun _ => ?_) (by omega))
        refine hnew hv _ s (fun c c1 c2 c3 c4 c5 => ?_) ?_ hN ?_ (fun i hi => ?_)
        · rw [am_up_o c1]; exact hg c c1 c2 c3 c4 c5
        · have : g 1 3 = h 1 3 := by rw [hg 1 (by decide) (by decide) (by decide) (by decide) (by decide)]
          rw [← this]
          simp [am_up]
        · rw [← gs]; simp [am_up]
        · rw [am_up_o (by decide)]; exact gl i hi
      intro d
      induction d with
      | zero =>
        intro s g left hd hg gs glo gk gl hl hpos
        have hs : s = 60 := by omega
        subst hs
        have hb := ly_c_b (pd_q h) n 60
        have hle := ly_c_le 60 hpos
        repeat (first | exact fin 60 g left hg gs gl ⟨by omega, hpos⟩ | refine hJ _ _ _ _ ?_ | refine And.intro (by omega) (fun _ => ?_) | refine And.intro (by omega) ?_ | refine And.intro (fun _ => ?_) (by omega))
      | succ d ih =>
        intro s g left hd hg gs glo gk gl hl hpos
        have hb := ly_c_b (pd_q h) n s
        have gq : pd_q g = pd_q h := by
          funext i
          unfold pd_q
          rw [hg 2 (by decide) (by decide) (by decide) (by decide) (by decide), hg 3 (by decide) (by decide) (by decide) (by decide) (by decide)]
        have gH : pd_ok g := fun i hi => by rw [hg 2 (by decide) (by decide) (by decide) (by decide) (by decide), hg 3 (by decide) (by decide) (by decide) (by decide) (by decide)]; exact H i hi
        have gn : g 1 2 = (n : Int) := by rw [hg 1 (by decide) (by decide) (by decide) (by decide) (by decide)]; exact hn
        repeat (first | refine hJ _ _ _ _ ?_ | refine And.intro (by omega) (fun _ => ?_) | refine And.intro (by omega) ?_ | refine And.intro (fun _ => ?_) (by omega))
        refine And.intro (fun hz => ?_) (fun hz => ?_)
        · repeat (first | exact fin s g left hg gs gl ⟨by omega, hpos⟩ | refine hJ _ _ _ _ ?_ | refine And.intro (by omega) (fun _ => ?_) | refine And.intro (by omega) ?_ | refine And.intro (fun _ => ?_) (by omega))
        · repeat (first | refine hJ _ _ _ _ ?_ | refine And.intro (by omega) (fun _ => ?_) | refine And.intro (by omega) ?_ | refine And.intro (fun _ => ?_) (by omega))
          refine s_La_takeOff gH gn hn2 glo gk gs (fun h' f1 f2 f3 f4 => ?_)
          rw [gq] at f3 f4 ⊢
          have e12 : h' 12 3 = (s : Int) := by rw [f1 12 (by decide) (by decide) (by decide) (by decide)]; exact gs
          repeat (first | refine ih (s + 1) _ _ (by omega) ?_ ?_ ?_ ?_ ?_ ?_ ?_ | refine hJ _ _ _ _ ?_ | refine And.intro (by omega) (fun _ => ?_) | refine And.intro (by omega) ?_ | refine And.intro (fun _ => ?_) (by omega))
          · intro c c1 c2 c3 c4 c5
            rw [am_up_o c1, f1 c c2 c3 c4 c5]
            exact hg c c1 c2 c3 c4 c5
          · simp only [am_up, e12]
            simp
          · intro i hi
            rw [am_up_o (show 14 + 1 ≠ 12 by decide)]
            exact f2 i hi
          · intro i hi
            have e15 : am_up h' 12 3 (h' 12 3 + 1) 15 = h' 15 := am_up_o (by decide)
            have hgk := gk i hi
            apply Bool.eq_iff_iff.mpr
            rw [pd_m_t, ly_k_s]
            have hgk2 : ly_k (pd_q h) n s i = true ↔ g 15 i = 0 := by rw [← hgk, pd_m_t]
            show am_up h' 12 3 (h' 12 3 + 1) 15 i = 0 ↔ _
            rw [e15, f3 i hi]
            by_cases hgo : ly_k (pd_q h) n s i = true ∧ hu_a (pd_q h) (ly_k (pd_q h) n s) n (pd_q h i) = 0
            · rw [if_pos hgo]
              exact ⟨fun q => by omega, fun q => absurd hgo.2 q.2⟩
            · rw [if_neg hgo, hgk2]
              rw [hgk2] at hgo
              exact ⟨fun q => ⟨q, fun q2 => hgo ⟨q, q2⟩⟩, fun q => q.1⟩
          · intro i hi
            rw [am_up_o (by decide), f4 i hi, gl i hi]
            rfl
          · rw [ly_c_s, hl]
            rfl
          · intro s' hs'
            rcases (show s' = s ∨ s' < s by omega) with q | q
            · subst q; omega
            · exact hpos s' q
    repeat (first | refine hJ _ _ _ _ ?_ | refine And.intro (by omega) (fun _ => ?_) | refine And.intro (by omega) ?_ | refine And.intro (fun _ => ?_) (by omega))
    refine s_Hu_takeAllIn (.inr rfl) ?_
    have e15 : ∀ i, i < 60 → am_up (aw h 15 (fun _ => 0) 60) 12 3 0 15 i = 0 := fun i hi => by rw [am_up_o (by decide)]; exact aw_i hi
    have en : am_up (aw h 15 (fun _ => 0) 60) 12 3 0 1 2 = (n : Int) := hn
    repeat (first | refine loop 60 0 _ _ (by omega) ?_ ?_ ?_ ?_ ?_ ?_ ?_ | refine hJ _ _ _ _ ?_ | refine And.intro (by omega) (fun _ => ?_) | refine And.intro (by omega) ?_ | refine And.intro (fun _ => ?_) (by omega))
    · intro c c1 c2 c3 c4 c5
      rw [am_up_o c1, aw_o c4]
    · simp [am_up]
    · intro i hi
      exact .inl (e15 i hi)
    · intro i hi
      apply Bool.eq_iff_iff.mpr
      rw [pd_m_t]
      exact ⟨fun _ => rfl, fun _ => e15 i (by omega)⟩
    · intro i hi
      rw [am_up_o (by decide), aw_o (by decide)]
      rfl
    · rw [ly_c_0, en]
    · intro s' hs'
      exact absurd hs' (Nat.not_lt_zero _)
  · repeat (first | refine hJ _ _ _ _ ?_ | refine And.intro (by omega) (fun _ => ?_) | refine And.intro (by omega) ?_ | refine And.intro (fun _ => ?_) (by omega))
    exact hsame hv
