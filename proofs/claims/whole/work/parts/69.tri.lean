/-! ears of a simple route -/
theorem ex_first {p : Nat → Prop} : ∀ n, (∃ i, i < n ∧ p i) → ∃ i, i < n ∧ p i ∧ ∀ j, j < i → ¬ p j := by
  intro n
  induction n with
  | zero => rintro ⟨i, h, -⟩; omega
  | succ n ih =>
    rintro ⟨i, hi, hp⟩
    by_cases h : ∃ j, j < n ∧ p j
    · obtain ⟨j, h1, h2, h3⟩ := ih h
      exact ⟨j, by omega, h2, h3⟩
    · refine ⟨i, hi, hp, fun j hj hpj => h ⟨j, by omega, hpj⟩⟩
theorem bx_lt {m i : Nat} (h : i < m) : bx m i < m := by unfold bx; split <;> omega
theorem nx_bx {m i : Nat} (h : i < m) : nx m (bx m i) = i := by
  unfold nx bx
  split
  · split <;> omega
  · split <;> omega
theorem mp_pz {rg : Nat → ge_P} {L : List Nat} {i : Nat} (h : i < L.length) : pz (L.map rg) i = rg (L.getD i 0) := by
  unfold pz
  rw [List.getD_eq_getElem?_getD, List.getD_eq_getElem?_getD, List.getElem?_map, List.getElem?_eq_getElem h]
  rfl
theorem tr_x_in {s : Int} (hs : s = 1 ∨ s = -1) {a p b q : ge_P} (h : 0 < s * ge_x a p b) : tr_x s a p b q ↔ ge_inS a p b q := by
  have s1 := ge_x_swap p b q
  have s2 := ge_x_swap a p q
  have s3 := ge_x_swap b a q
  unfold tr_x ge_inS ge_in
  rcases hs with rfl | rfl <;> omega
def tI (rg : Nat → ge_P) (s : Int) (m : Nat) (L : List Nat) : Prop := L.Pairwise (· < ·) ∧ (∀ a, a ∈ L → a < m) ∧ ge_S (L.map rg) ∧ ∃ D, ge_Sg (L.map rg) D ∧ ge_ss s D
theorem tr_s_v (rg : Nat → ge_P) (m : Nat) : tr_s rg m = 1 ∨ tr_s rg m = -1 := by
  unfold tr_s
  split
  · exact .inl rfl
  · exact .inr rfl
theorem tI_start {rg : Nat → ge_P} {m : Nat} (h : rs rg m) : tI rg (tr_s rg m) m (List.range m) := by
  have hS := rs_S h
  obtain ⟨D, hD⟩ := ge_Sg_ex hS
  have ha := ge_area _ _ (Nat.le_refl _) hS D hD
  rw [rl_R] at ha
  refine ⟨List.pairwise_lt_range, fun a ha => List.mem_range.mp ha, hS, D, hD, ?_⟩
  unfold tr_s
  unfold ge_ss at *
  split <;> omega
/-- each vertex by its index -/
theorem pz_mem {P : List ge_P} {u : ge_P} (h : u ∈ P) : ∃ i, i < P.length ∧ pz P i = u := by
  obtain ⟨i, hi, e⟩ := List.mem_iff_getElem.mp h
  refine ⟨i, hi, ?_⟩
  unfold pz
  rw [List.getD_eq_getElem?_getD, List.getElem?_eq_getElem hi]
  exact e
theorem pz_in {P : List ge_P} {i : Nat} (h : i < P.length) : pz P i ∈ P := by
  unfold pz
  rw [List.getD_eq_getElem?_getD, List.getElem?_eq_getElem h]
  exact List.getElem_mem h
theorem pz_inj {P : List ge_P} (hn : P.Nodup) {i j : Nat} (hi : i < P.length) (hj : j < P.length) (e : pz P i = pz P j) : i = j := by
  unfold pz at e
  rw [List.getD_eq_getElem?_getD, List.getD_eq_getElem?_getD, List.getElem?_eq_getElem hi, List.getElem?_eq_getElem hj] at e
  have e : P[i] = P[j] := e
  rcases (show i < j ∨ j < i ∨ i = j by omega) with g | g | g
  · exact absurd e (List.pairwise_iff_getElem.mp hn i j hi hj g)
  · exact absurd e.symm (List.pairwise_iff_getElem.mp hn j i hj hi g)
  · exact g
theorem pz_succ {P : List ge_P} {i : Nat} (h : i < P.length) : (pz P i, pz P (nx P.length i)) ∈ ge_Ed P := (ge_Ed_idx P _).mpr ⟨i, h, rfl⟩
theorem pz_pred {P : List ge_P} {i : Nat} (h : i < P.length) : (pz P (bx P.length i), pz P i) ∈ ge_Ed P := (ge_Ed_idx P _).mpr ⟨bx P.length i, bx_lt h, by rw [nx_bx h]⟩
/-- there is a first ear -/
theorem tr_first {rg : Nat → ge_P} {s : Int} {m : Nat} (hs : s = 1 ∨ s = -1) {L : List Nat} (h : tI rg s m L) : ∃ i, tr_1 rg s L i := by
  obtain ⟨hp, hm, hS, D, hD, hss⟩ := h
  have h3 := hS.2.1
  have hlen : (L.map rg).length = L.length := by simp
  have hE := ge_ears _ _ (Nat.le_refl _) hS D hD
  have he0 := pz_succ (P := L.map rg) (i := 0) (by omega)
  obtain ⟨u, ⟨a, b, e1, e2, e3, e4⟩, -, -⟩ := hE _ _ he0
  obtain ⟨i, hi, rfl⟩ := pz_mem (ge_Ed_mem e2).1
  have ea : a = pz (L.map rg) (bx (L.map rg).length i) := by
    have := ge_pred_uniq hS e1 (pz_pred hi) rfl
    exact congrArg Prod.fst this
  have eb : b = pz (L.map rg) (nx (L.map rg).length i) := by
    have := ge_succ_uniq hS e2 (pz_succ hi) rfl
    exact congrArg Prod.snd this
  rw [hlen] at ea eb hi
  have hbx := bx_lt hi
  have hnx := nx_lt hi
  have hsx : 0 < s * ge_x a (pz (L.map rg) i) b := by
    unfold ge_ss at hss e3
    rcases hs with rfl | rfl <;> omega
  have key : tr_e rg s L i := by
    unfold tr_e
    rw [← mp_pz (rg := rg) hbx, ← mp_pz (rg := rg) hi, ← mp_pz (rg := rg) hnx, ← ea, ← eb]
    refine ⟨hsx, fun k hk k1 k2 k3 => ?_⟩
    rw [← mp_pz (rg := rg) hk, tr_x_in hs hsx]
    refine e4 _ (pz_in (by omega)) ?_ ?_ ?_
    · intro g; rw [ea] at g; exact k1 (pz_inj hS.1 (by omega) (by omega) g)
    · intro g; exact k2 (pz_inj hS.1 (by omega) (by omega) g)
    · intro g; rw [eb] at g; exact k3 (pz_inj hS.1 (by omega) (by omega) g)
  obtain ⟨j, h1, h2, h4⟩ := ex_first L.length ⟨i, hi, key⟩
  exact ⟨j, h1, h2, h4⟩
/-- cutting one off -/
theorem tr_cut {rg : Nat → ge_P} {s : Int} {m : Nat} (hs : s = 1 ∨ s = -1) {L : List Nat} (h : tI rg s m L) {i : Nat} (hi : i < L.length) (h4 : 3 < L.length) (he : tr_e rg s L i) : tI rg s m (L.eraseIdx i) ∧ ge_R (L.map rg) = ge_R ((L.eraseIdx i).map rg) + ge_x (rg (L.getD (bx L.length i) 0)) (rg (L.getD i 0)) (rg (L.getD (nx L.length i) 0)) := by
  obtain ⟨hp, hm, hS, D, hD, hss⟩ := h
  have hlen : (L.map rg).length = L.length := by simp
  obtain ⟨hsx, hem⟩ := he
  have hbx := bx_lt hi
  have hnx := nx_lt hi
  have gi : L.getD i 0 = L[i] := by rw [List.getD_eq_getElem?_getD, List.getElem?_eq_getElem hi]; rfl
  have hL : L = L.take i ++ L.getD i 0 :: L.drop (i + 1) := by
    rw [gi, ← List.drop_eq_getElem_cons hi, List.take_append_drop]
  have hE : L.eraseIdx i = L.take i ++ L.drop (i + 1) := List.eraseIdx_eq_take_drop_succ L i
  obtain ⟨l1, hl1⟩ : ∃ l1, l1 = (L.take i).map rg := ⟨_, rfl⟩
  obtain ⟨l2, hl2⟩ : ∃ l2, l2 = (L.drop (i + 1)).map rg := ⟨_, rfl⟩
  obtain ⟨v, hv⟩ : ∃ v, v = rg (L.getD i 0) := ⟨_, rfl⟩
  have hP : L.map rg = l1 ++ v :: l2 := by
    rw [hl1, hl2, hv]
    conv => lhs; rw [hL]
    rw [List.map_append, List.map_cons]
  have hPE : (L.eraseIdx i).map rg = l1 ++ l2 := by rw [hE, List.map_append, hl1, hl2]
  have hNl : (l2 ++ l1).length = L.length - 1 := by
    have := congrArg List.length hP
    rw [hlen] at this
    simp at this ⊢
    omega
  obtain ⟨b, c, M, a, hN⟩ := ge_form3 (l2 ++ l1) (by omega)
  have hrot : (v :: l2) ++ l1 = v :: b :: (c :: M) ++ [a] := by
    show v :: (l2 ++ l1) = _
    rw [hN]; rfl
  have hS0 := hS
  have hD0 := hD
  rw [hP] at hS hD
  have hS1 := ge_S_rot hS
  rw [hrot] at hS1
  have hD1 := ge_Sg_rot hS hD
  rw [hrot] at hD1
  have ed : ∀ e, e ∈ ge_Ed (v :: b :: (c :: M) ++ [a]) → e ∈ ge_Ed (L.map rg) := fun e q => by
    rw [← hrot] at q
    rw [hP]
    exact (ge_Ed_rot l1 (v :: l2) e).mpr q
  have e1 : (v, b) ∈ ge_Ed (L.map rg) := ed _ (by rw [ge_Ed_cons]; simp)
  have e2 : (a, v) ∈ ge_Ed (L.map rg) := ed _ (by rw [ge_Ed_cons]; simp)
  have pvi : pz (L.map rg) i = v := by rw [mp_pz hi, hv]
  have eb : b = rg (L.getD (nx L.length i) 0) := by
    have := ge_succ_uniq hS0 e1 (pz_succ (P := L.map rg) (i := i) (by omega)) pvi.symm
    rw [← mp_pz (rg := rg) hnx]
    have := congrArg Prod.snd this
    rw [hlen] at this
    exact this
  have ea : a = rg (L.getD (bx L.length i) 0) := by
    have := ge_pred_uniq hS0 e2 (pz_pred (P := L.map rg) (i := i) (by omega)) pvi.symm
    rw [← mp_pz (rg := rg) hbx]
    have := congrArg Prod.fst this
    rw [hlen] at this
    exact this
  rw [← ea, ← eb, ← hv] at hsx hem ⊢
  have hne : ge_x a v b ≠ 0 := by
    intro g
    rw [g] at hsx
    omega
  have hem' : ∀ u ∈ c :: M, ¬ ge_inS a v b u := by
    intro u hu
    have huP : u ∈ L.map rg := by
      have : u ∈ l2 ++ l1 := by rw [hN]; simp at hu ⊢; grind
      rw [hP]
      simp at this ⊢
      grind
    obtain ⟨k, hk, rfl⟩ := pz_mem huP
    rw [hlen] at hk
    have hnd := hS1.1
    have hu3 : pz (L.map rg) k ≠ v ∧ pz (L.map rg) k ≠ b ∧ pz (L.map rg) k ≠ a := by
      simp at hnd hu
      grind
    rw [← tr_x_in hs hsx, mp_pz hk]
    rw [mp_pz hk] at hu3
    refine hem k hk ?_ ?_ ?_
    · intro g; subst g; exact hu3.2.2 ea.symm
    · intro g; subst g; exact hu3.1 hv.symm
    · intro g; subst g; exact hu3.2.1 eb.symm
  have hsD : ge_ss D (ge_x a v b) := by
    unfold ge_ss at *
    rcases hs with rfl | rfl <;> omega
  have hS2 := ge_S_cut hS1 (by simp) hne hem'
  obtain ⟨D', hD'⟩ := ge_Sg_ex hS2
  have hse := ge_sense hS1 (by simp) hD1 hsD hem' hD'
  have hbN : b :: (c :: M) ++ [a] = l2 ++ l1 := hN.symm
  rw [hbN] at hS2 hD'
  refine ⟨⟨List.Pairwise.sublist (List.eraseIdx_sublist L i) hp, fun x hx => hm x (List.mem_of_mem_eraseIdx hx), ?_, D', ?_, ge_ss_trans hss hse⟩, ?_⟩
  · rw [hPE]; exact ge_S_rot hS2
  · rw [hPE]; exact ge_Sg_rot hS2 hD'
  · rw [hPE, hP, ge_R_rot l1 (v :: l2), hrot, ge_R_cut, hbN, ge_R_rot l1 l2]
/-- the area of a triangle by its number -/
def ta (rg : Nat → ge_P) (s t : Int) : Int := s * ge_x (rg (t / 4096).toNat) (rg (t / 64 % 64).toNat) (rg (t % 64).toNat)
theorem ta_c (rg : Nat → ge_P) (s : Int) {a p b : Nat} (ha : a < 64) (hp : p < 64) (hb : b < 64) : ta rg s (4096 * (a : Int) + 64 * (p : Int) + b) = s * ge_x (rg a) (rg p) (rg b) := by
  unfold ta
  rw [show ((4096 * (a : Int) + 64 * (p : Int) + b) / 4096).toNat = a by omega, show ((4096 * (a : Int) + 64 * (p : Int) + b) / 64 % 64).toNat = p by omega, show ((4096 * (a : Int) + 64 * (p : Int) + b) % 64).toNat = b by omega]
theorem tr_w_len {rg : Nat → ge_P} {s : Int} {m : Nat} : ∀ (k : Nat) (L : List Nat) (T : List Int), tr_w rg s m k L T → T.length = k ∧ L.length + k = m := by
  intro k
  induction k with
  | zero => intro L T h; rw [h.1, h.2]; simp
  | succ k ih =>
    intro L T h
    obtain ⟨L', T', i, h1, h2, h3, h4⟩ := h
    have := ih L' T' h1
    have hi := h2.1
    rw [h3, h4, List.length_append, List.length_eraseIdx, if_pos hi]
    simp
    omega
theorem tr_pre {rg : Nat → ge_P} {s : Int} {m : Nat} {k : Nat} {L : List Nat} {T : List Int} (h : tr_w rg s m k L T) : ∀ (d : Nat) (L2 : List Nat) (T2 : List Int), tr_w rg s m (k + d) L2 T2 → ∃ r, T2 = T ++ r := by
  intro d
  induction d with
  | zero => intro L2 T2 h2; exact ⟨[], by rw [List.append_nil, (tr_w_uniq k L2 L T2 T h2 h).2]⟩
  | succ d ih =>
    intro L2 T2 h2
    obtain ⟨L', T', i, h3, h4, h5, h6⟩ := h2
    obtain ⟨r, hr⟩ := ih L' T' h3
    exact ⟨r ++ [tr_c L' i], by rw [h6, hr, List.append_assoc]⟩
theorem tr_mem {L : List Nat} {i : Nat} (h : i < L.length) : L.getD i 0 ∈ L := by
  rw [List.getD_eq_getElem?_getD, List.getElem?_eq_getElem h]
  exact List.getElem_mem h
/-- what holds after k cuts -/
theorem tr_w_ok {rg : Nat → ge_P} {m : Nat} (hr : rs rg m) (m40 : m ≤ 40) : ∀ (k : Nat) (L : List Nat) (T : List Int), k + 3 ≤ m → tr_w rg (tr_s rg m) m k L T → tI rg (tr_s rg m) m L ∧ (∀ j, j < k → 0 ≤ T.getD j 0 ∧ T.getD j 0 < 262144 ∧ 0 < ta rg (tr_s rg m) (T.getD j 0) ∧ (T.getD j 0 / 4096) < m ∧ (T.getD j 0 / 64 % 64) < m ∧ (T.getD j 0 % 64) < m) ∧ su (fun j => ta rg (tr_s rg m) (T.getD j 0)) 0 k + tr_s rg m * ge_R (L.map rg) = tr_s rg m * ro rg m := by
  intro k
  induction k with
  | zero =>
    intro L T hk h
    rw [h.1]
    refine ⟨tI_start hr, fun j hj => absurd hj (Nat.not_lt_zero _), ?_⟩
    rw [su_0 (Nat.le_refl _), ← rl_R]
    show 0 + tr_s rg m * ge_R (rl rg m) = _
    omega
  | succ k ih =>
    intro L T hk h
    obtain ⟨L', T', i, h1, h2, h3, h4⟩ := h
    obtain ⟨i1, i2, i3⟩ := ih L' T' (by omega) h1
    have hl := tr_w_len k L' T' h1
    have hi := h2.1
    have hc := tr_cut (tr_s_v rg m) i1 hi (by omega) h2.2.1
    have hbx := i1.2.1 _ (tr_mem (bx_lt hi))
    have hii := i1.2.1 _ (tr_mem hi)
    have hnx := i1.2.1 _ (tr_mem (nx_lt hi))
    have et : ta rg (tr_s rg m) (tr_c L' i) = tr_s rg m * ge_x (rg (L'.getD (bx L'.length i) 0)) (rg (L'.getD i 0)) (rg (L'.getD (nx L'.length i) 0)) := ta_c rg _ (by omega) (by omega) (by omega)
    have ec : tr_c L' i = 4096 * ((L'.getD (bx L'.length i) 0 : Nat) : Int) + 64 * ((L'.getD i 0 : Nat) : Int) + ((L'.getD (nx L'.length i) 0 : Nat) : Int) := rfl
    have egd : ∀ j, j < k → T.getD j 0 = T'.getD j 0 := fun j hj => by rw [h4]; exact getD_l (by omega)
    have egk : T.getD k 0 = tr_c L' i := by
      have := getD_r T' (tr_c L' i)
      rw [hl.1] at this
      rw [h4]; exact this
    rw [h3]
    refine ⟨hc.1, fun j hj => ?_, ?_⟩
    · rcases (show j < k ∨ j = k by omega) with q | q
      · rw [egd j q]; exact i2 j q
      · subst q
        rw [egk]
        refine ⟨by omega, by omega, ?_, by omega, by omega, by omega⟩
        rw [et]; exact h2.2.1.1
    · rw [su_s (Nat.zero_le k), su_congr (g' := fun j => ta rg (tr_s rg m) (T'.getD j 0)) (fun j _ hj => by rw [egd j hj])]
      show su (fun j => ta rg (tr_s rg m) (T'.getD j 0)) 0 k + ta rg (tr_s rg m) (T.getD k 0) + _ = _
      rw [egk, et, ← i3, hc.2, Int.mul_add]
      omega
/-- the last triangle -/
abbrev tr_z (L : List Nat) : Int := 4096 * ((L.getD 0 0 : Nat) : Int) + 64 * ((L.getD 1 0 : Nat) : Int) + ((L.getD 2 0 : Nat) : Int)
theorem tr_last {rg : Nat → ge_P} {s : Int} {m : Nat} (hs : s = 1 ∨ s = -1) (m40 : m ≤ 40) {L : List Nat} (h : tI rg s m L) (h3 : L.length = 3) : ta rg s (tr_z L) = s * ge_R (L.map rg) ∧ 0 < ta rg s (tr_z L) ∧ L.getD 0 0 < m ∧ L.getD 1 0 < m ∧ L.getD 2 0 < m := by
  have b0 := h.2.1 _ (tr_mem (show 0 < L.length by omega))
  have b1 := h.2.1 _ (tr_mem (show 1 < L.length by omega))
  have b2 := h.2.1 _ (tr_mem (show 2 < L.length by omega))
  have e : ta rg s (tr_z L) = s * ge_x (rg (L.getD 0 0)) (rg (L.getD 1 0)) (rg (L.getD 2 0)) := ta_c rg s (by omega) (by omega) (by omega)
  obtain ⟨hp, hm, hS, D, hD, hss⟩ := h
  have ha := ge_area _ _ (Nat.le_refl _) hS D hD
  have eR : ge_R (L.map rg) = ge_x (rg (L.getD 0 0)) (rg (L.getD 1 0)) (rg (L.getD 2 0)) := by
    rw [ge_R_idx]
    have hlen : (L.map rg).length = 3 := by simp [h3]
    rw [hlen, su_s (by omega), su_s (by omega), su_s (by omega), su_0 (by omega)]
    rw [show nx 3 0 = 1 from rfl, show nx 3 1 = 2 from rfl, show nx 3 2 = 0 from rfl, mp_pz (by omega), mp_pz (by omega), mp_pz (by omega), ge_x_r]
    omega
  refine ⟨by rw [e, eR], ?_, b0, b1, b2⟩
  rw [e, ← eR]
  unfold ge_ss at *
  rcases hs with rfl | rfl <;> omega
theorem tr_ex {rg : Nat → ge_P} {m : Nat} (hr : rs rg m) (m40 : m ≤ 40) : ∀ k, k + 3 ≤ m → ∃ L T, tr_w rg (tr_s rg m) m k L T := by
  intro k
  induction k with
  | zero => intro _; exact ⟨_, _, rfl, rfl⟩
  | succ k ih =>
    intro hk
    obtain ⟨L, T, h⟩ := ih (by omega)
    obtain ⟨i, hi⟩ := tr_first (tr_s_v rg m) (tr_w_ok hr m40 k L T (by omega) h).1
    exact ⟨_, _, L, T, i, h, hi, rfl, rfl⟩
