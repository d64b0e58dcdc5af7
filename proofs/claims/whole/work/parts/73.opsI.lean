/-! call: triangle, and the whole -/
theorem rs_sg {rg : Nat → ge_P} {m : Nat} (h : rs rg m) : sg (ro rg m) = tr_s rg m := by
  have hS := rs_S h
  obtain ⟨D, hD⟩ := ge_Sg_ex hS
  have ha := ge_area _ _ (Nat.le_refl _) hS D hD
  rw [rl_R] at ha
  unfold ge_ss at ha
  unfold sg tr_s
  split
  · rfl
  · rw [if_pos (by omega)]
set_option maxRecDepth 20000 in
set_option maxHeartbeats 2000000 in
theorem m_triangle {E : AE} {l : Launch} {n m : Nat} {pt : Nat → ge_P} {rt : Nat → Nat} {rg : Nat → ge_P} {h : AH} (R : ir n m pt rt h) (D : rr n m pt rt rg) (hro : -3200000000000 ≤ ro rg m ∧ ro rg m ≤ 3200000000000) {x v : Int} (hx : lo_r x) (hv : an_tri rg m x v) : am_g E l 147 [.inr (.inr 24), .inl x] h (rq n m pt rt h 0 (some (.inl v))) := by
  have hQ : ∀ v, rq n m pt rt h 0 v v (am_up h 24 0 0) := fun v => rq_t R
  have R0 := ir_t R (t := 0)
  have P := R0.1
  have K := ir_mr R0 D
  have hm := K.1
  have m40 := K.2.1
  have no : ¬ (rs rg m ∧ 0 ≤ x ∧ x ≤ (m : Int) - 3) → rq n m pt rt h 0 (some (.inl v)) (some (.inl (-1))) (am_up h 24 0 0) := fun g => by
    rcases hv with ⟨-, rfl⟩ | ⟨q, -⟩
    · exact hQ _
    · exact absurd q g
  refine am_met T_Mo_triangle (by decide) (Nat.le_of_ble_eq_true rfl) (fun J hJ => ?_)
  by_cases hy : 0 ≤ x ∧ x ≤ (m : Int) - 3
  · repeat (first | refine hJ _ _ _ _ ?_ | refine And.intro (by omega) (fun _ => ?_) | refine And.intro (by omega) ?_ | refine And.intro (fun _ => ?_) (by omega))
    refine s_Mo_isSimple P K (fun hs => ?_) (fun hs => ?_)
    · have hyes : ∃ L T, tr_w rg (tr_s rg m) m (m - 3) L T ∧ v = cc m L T x.toNat := by
        rcases hv with ⟨g, -⟩ | ⟨-, g⟩
        · exact absurd ⟨hs, hy⟩ g
        · exact g
      obtain ⟨Lf, Tf, Wf, ev⟩ := hyes
      have h3 := hs.1
      have hsv := tr_s_v rg m
      have hsr : -1 ≤ tr_s rg m ∧ tr_s rg m ≤ 1 := by rcases hsv with e | e <;> rw [e] <;> decide
      have hne : ∀ i k, i < m → k < m → i ≠ k → rg i ≠ rg k := fun i k hi hk hik => by
        rcases (show i < k ∨ k < i by omega) with g | g
        · exact (hs.2 i k g hk).1
        · exact (hs.2 k i g hi).1.symm
      have hfin : ∀ (g : AH), (∀ c, c ≠ 33 → g c = am_up h 24 0 0 c) → ∀ w, rq n m pt rt h 0 w w g := fun g fr w =>
        ⟨rfl, fun c hc => by rw [fr c (by omega), am_up_o (by omega)], by rw [fr 24 (by decide)]; simp [am_up], mp_cg R.1 (by rw [fr 24 (by decide)]; rfl) (by rw [fr 25 (by decide)]; exact am_up_o (by decide)) (by rw [fr 26 (by decide)]; exact am_up_o (by decide)), by rw [fr 24 (by decide)]; exact R0.2.1, by rw [fr 27 (by decide)]; exact R0.2.2⟩
      have gP : ∀ (g : AH), (∀ c, c ≠ 33 → g c = am_up h 24 0 0 c) → mp g n pt := fun g fr => mp_cg P (by rw [fr 24 (by decide)]) (fr 25 (by decide)) (fr 26 (by decide))
      have gK : ∀ (g : AH), (∀ c, c ≠ 33 → g c = am_up h 24 0 0 c) → mr g n m pt rg := fun g fr => by
        unfold mr at K ⊢
        rw [fr 24 (by decide), fr 27 (by decide)]
        exact K
      have main : ∀ d k : Nat, ∀ (g : AH) (L : List Nat) (T : List Int) (y : Option AV), k + 3 + d = m → (k : Int) ≤ x → (∀ c, c ≠ 33 → g c = am_up h 24 0 0 c) → mcut g m L → tr_w rg (tr_s rg m) m k L T → J 67 [some (.inr (.inr 24)), some (.inl x), some (.inl (tr_s rg m)), some (.inl (k : Int)), some (.inl ((d : Int) + 3)), y] [] g := by
        intro d
        induction d with
        | zero =>
          intro k g L T y hk hkx fr C W
          have hl := tr_w_len k L T W
          have ok := tr_w_ok hs m40 k L T (by omega) W
          have hp := ok.1.1
          have hlm := ok.1.2.1
          have gm : g 24 5 = (m : Int) := (gK g fr).1
          have ek : k = m - 3 := by omega
          have exk : x.toNat = m - 3 := by omega
          rw [ek] at W
          obtain ⟨rfl, rfl⟩ := tr_w_uniq _ _ _ _ _ Wf W
          have ec : v = tr_z Lf := by
            rw [ev, exk]; exact if_neg (by omega)
          have l0 := hlm _ (tr_mem (show 0 < Lf.length by omega))
          have l1 := hlm _ (tr_mem (show 1 < Lf.length by omega))
          have l2 := hlm _ (tr_mem (show 2 < Lf.length by omega))
          have n0 : nx Lf.length 0 = 1 := by rw [show Lf.length = 3 by omega]; rfl
          have n1 : nx Lf.length 1 = 2 := by rw [show Lf.length = 3 by omega]; rfl
          have scan : ∀ e i : Nat, i + e = Lf.getD 0 0 → J 158 [some (.inr (.inr 24)), some (.inl x), some (.inl (tr_s rg m)), some (.inl (k : Int)), some (.inl (i : Int)), y] [] g := by
            intro e
            induction e with
            | zero =>
              intro i hi
              have ei : i = Lf.getD 0 0 := by omega
              have hc : g 33 (Int.toNat (i : Int)) = 0 := by
                rcases C i (by omega) with ⟨-, q⟩ | ⟨q, -⟩
                · exact q
                · rw [ei] at q; exact absurd (tr_mem (by omega)) q
              subst ei
              repeat (first | refine hJ _ _ _ _ ?_ | refine And.intro (by omega) (fun _ => ?_) | refine And.intro (by omega) ?_ | refine And.intro (fun _ => ?_) (by omega))
              refine s_Mo_left1 gm m40 hp hlm C (by omega) ?_
              rw [n0]
              repeat (first | refine hJ _ _ _ _ ?_ | refine And.intro (by omega) (fun _ => ?_) | refine And.intro (by omega) ?_ | refine And.intro (fun _ => ?_) (by omega))
              refine s_Mo_left1 gm m40 hp hlm C (by omega) ?_
              rw [n0]
              repeat (first | refine hJ _ _ _ _ ?_ | refine And.intro (by omega) (fun _ => ?_) | refine And.intro (by omega) ?_ | refine And.intro (fun _ => ?_) (by omega))
              refine s_Mo_left1 gm m40 hp hlm C (by omega) ?_
              rw [n1]
              repeat (first | refine hJ _ _ _ _ ?_ | refine And.intro (by omega) (fun _ => ?_) | refine And.intro (by omega) ?_ | refine And.intro (fun _ => ?_) (by omega))
              rw [ec]
              exact hfin g fr _
            | succ e ih =>
              intro i hi
              have hc : g 33 (Int.toNat (i : Int)) = 1 := by
                rcases C i (by omega) with ⟨q, -⟩ | ⟨-, q⟩
                · exact absurd q (st_bot hp (by omega))
                · exact q
              repeat (first | exact ih (i + 1) (by omega) | refine hJ _ _ _ _ ?_ | refine And.intro (by omega) (fun _ => ?_) | refine And.intro (by omega) ?_ | refine And.intro (fun _ => ?_) (by omega))
          repeat (first | exact scan (Lf.getD 0 0) 0 (by omega) | refine hJ _ _ _ _ ?_ | refine And.intro (by omega) (fun _ => ?_) | refine And.intro (by omega) ?_ | refine And.intro (fun _ => ?_) (by omega))
        | succ d ih =>
          intro k g L T y hk hkx fr C W
          have hl := tr_w_len k L T W
          have ok := tr_w_ok hs m40 k L T (by omega) W
          have hp := ok.1.1
          have hlm := ok.1.2.1
          have gm : g 24 5 = (m : Int) := (gK g fr).1
          obtain ⟨p, h1⟩ := tr_first hsv ok.1
          have hpl := h1.1
          have lp := hlm _ (tr_mem hpl)
          have W2 : tr_w rg (tr_s rg m) m (k + 1) (L.eraseIdx p) (T ++ [tr_c L p]) := ⟨L, T, p, W, h1, rfl, rfl⟩
          have found : J 102 [some (.inr (.inr 24)), some (.inl x), some (.inl (tr_s rg m)), some (.inl (k : Int)), some (.inl (((d + 1 : Nat) : Int) + 3)), some (.inl ((L.getD p 0 : Nat) : Int))] [] g := by
            by_cases hkx2 : (k : Int) = x
            · have ec : v = tr_c L p := by
                obtain ⟨r, hr⟩ := tr_pre W2 (m - 3 - (k + 1)) Lf Tf (by rw [show k + 1 + (m - 3 - (k + 1)) = m - 3 by omega]; exact Wf)
                have e1 : cc m Lf Tf x.toNat = Tf.getD x.toNat 0 := if_pos (by omega)
                rw [ev, e1, hr, show x.toNat = T.length by omega, List.append_assoc]
                simp [List.getD_eq_getElem?_getD]
              repeat (first | refine hJ _ _ _ _ ?_ | refine And.intro (by omega) (fun _ => ?_) | refine And.intro (by omega) ?_ | refine And.intro (fun _ => ?_) (by omega))
              refine s_Mo_leftm gm m40 hp hlm C hpl ?_
              repeat (first | refine hJ _ _ _ _ ?_ | refine And.intro (by omega) (fun _ => ?_) | refine And.intro (by omega) ?_ | refine And.intro (fun _ => ?_) (by omega))
              refine s_Mo_left1 gm m40 hp hlm C hpl ?_
              repeat (first | refine hJ _ _ _ _ ?_ | refine And.intro (by omega) (fun _ => ?_) | refine And.intro (by omega) ?_ | refine And.intro (fun _ => ?_) (by omega))
              rw [ec]
              exact hfin g fr _
            · have C2 : mcut (am_up g 33 (Int.toNat ((L.getD p 0 : Nat) : Int)) 1) m (L.eraseIdx p) := by
                intro j hj
                by_cases hjp : j = L.getD p 0
                · right
                  refine ⟨fun q => ((st_erase hp hpl).mp q).2 hjp, ?_⟩
                  subst hjp
                  simp [am_up]
                · have e : am_up g 33 (Int.toNat ((L.getD p 0 : Nat) : Int)) 1 33 j = g 33 j := by
                    have hne2 : ¬ j = Int.toNat ((L.getD p 0 : Nat) : Int) := hjp
                    unfold am_up
                    rw [if_neg (fun q => hne2 q.2)]
                  rw [e]
                  rcases C j hj with ⟨q1, q2⟩ | ⟨q1, q2⟩
                  · exact .inl ⟨(st_erase hp hpl).mpr ⟨q1, hjp⟩, q2⟩
                  · exact .inr ⟨fun q => q1 ((st_erase hp hpl).mp q).1, q2⟩
              have this := ih (k + 1) _ _ _ (some (.inl ((L.getD p 0 : Nat) : Int))) (by omega) (by omega) (fun c hc => by rw [am_up_o hc]; exact fr c hc) C2 W2
              have e4 : (((d + 1 : Nat) : Int) + 3) + -1 = (d : Int) + 3 := by omega
              rw [← e4] at this
              repeat (first | exact this | refine hJ _ _ _ _ ?_ | refine And.intro (by omega) (fun _ => ?_) | refine And.intro (by omega) ?_ | refine And.intro (fun _ => ?_) (by omega))
          have scan : ∀ e i : Nat, i + e = L.getD p 0 → J 76 [some (.inr (.inr 24)), some (.inl x), some (.inl (tr_s rg m)), some (.inl (k : Int)), some (.inl (((d + 1 : Nat) : Int) + 3)), some (.inl (i : Int))] [] g := by
            intro e
            induction e with
            | zero =>
              intro i hi
              have ei : i = L.getD p 0 := by omega
              have hc : g 33 (Int.toNat (i : Int)) = 0 := by
                rcases C i (by omega) with ⟨-, q⟩ | ⟨q, -⟩
                · exact q
                · rw [ei] at q; exact absurd (tr_mem hpl) q
              subst ei
              repeat (first | refine hJ _ _ _ _ ?_ | refine And.intro (by omega) (fun _ => ?_) | refine And.intro (by omega) ?_ | refine And.intro (fun _ => ?_) (by omega))
              refine s_Mo_isEar (gP g fr) (gK g fr) hne hsv hp hlm C hpl (fun _ => ?_) (fun q => absurd h1.2.1 q)
              repeat (first | exact found | refine hJ _ _ _ _ ?_ | refine And.intro (by omega) (fun _ => ?_) | refine And.intro (by omega) ?_ | refine And.intro (fun _ => ?_) (by omega))
            | succ e ih2 =>
              intro i hi
              rcases C i (by omega) with ⟨q1, q2⟩ | ⟨q1, q2⟩
              · obtain ⟨p', hp', e'⟩ := st_ex q1
                have hlt : p' < p := by
                  rcases (show p' < p ∨ p ≤ p' by omega) with z | z
                  · exact z
                  · have := st_le hp z hp'; omega
                have hc : g 33 (Int.toNat (i : Int)) = 0 := q2
                subst e'
                repeat (first | refine hJ _ _ _ _ ?_ | refine And.intro (by omega) (fun _ => ?_) | refine And.intro (by omega) ?_ | refine And.intro (fun _ => ?_) (by omega))
                refine s_Mo_isEar (gP g fr) (gK g fr) hne hsv hp hlm C hp' (fun z => absurd z (h1.2.2 p' hlt)) (fun _ => ?_)
                repeat (first | exact ih2 (L.getD p' 0 + 1) (by omega) | refine hJ _ _ _ _ ?_ | refine And.intro (by omega) (fun _ => ?_) | refine And.intro (by omega) ?_ | refine And.intro (fun _ => ?_) (by omega))
              · have hc : g 33 (Int.toNat (i : Int)) = 1 := q2
                repeat (first | exact ih2 (i + 1) (by omega) | refine hJ _ _ _ _ ?_ | refine And.intro (by omega) (fun _ => ?_) | refine And.intro (by omega) ?_ | refine And.intro (fun _ => ?_) (by omega))
          repeat (first | exact scan (L.getD p 0) 0 (by omega) | refine hJ _ _ _ _ ?_ | refine And.intro (by omega) (fun _ => ?_) | refine And.intro (by omega) ?_ | refine And.intro (fun _ => ?_) (by omega))
      have clear_ : ∀ d k : Nat, ∀ (y z : Option AV), k + d = m → J 38 [some (.inr (.inr 24)), some (.inl x), some (.inl (tr_s rg m)), some (.inl (k : Int)), y, z] [] (aw (am_up h 24 0 0) 33 (fun _ => 0) k) := by
        intro d
        induction d with
        | zero =>
          intro k y z hk
          have ek : k = m := by omega
          subst ek
          have em : aw (am_up h 24 0 0) 33 (fun _ => 0) k 24 5 = (k : Int) := by rw [aw_o (by decide)]; exact hm
          have C0 : mcut (aw (am_up h 24 0 0) 33 (fun _ => 0) k) k (List.range k) := fun j hj => .inl ⟨List.mem_range.mpr hj, aw_i hj⟩
          have this := main (k - 3) 0 _ (List.range k) [] z (by omega) (by omega) (fun c hc => aw_o hc) C0 ⟨rfl, rfl⟩
          have e4 : ((k - 3 : Nat) : Int) + 3 = aw (am_up h 24 0 0) 33 (fun _ => 0) k 24 5 := by omega
          rw [e4] at this
          repeat (first | exact this | refine hJ _ _ _ _ ?_ | refine And.intro (by omega) (fun _ => ?_) | refine And.intro (by omega) ?_ | refine And.intro (fun _ => ?_) (by omega))
        | succ d ih =>
          intro k y z hk
          have em : aw (am_up h 24 0 0) 33 (fun _ => 0) k 24 5 = (m : Int) := by rw [aw_o (by decide)]; exact hm
          have this := ih (k + 1) y z (by omega)
          rw [← aw_s] at this
          repeat (first | exact this | refine hJ _ _ _ _ ?_ | refine And.intro (by omega) (fun _ => ?_) | refine And.intro (by omega) ?_ | refine And.intro (fun _ => ?_) (by omega))
      repeat (first | refine hJ _ _ _ _ ?_ | refine And.intro (by omega) (fun _ => ?_) | refine And.intro (by omega) ?_ | refine And.intro (fun _ => ?_) (by omega))
      refine s_Mo_roundOf P K h3 ?_
      repeat (first | refine hJ _ _ _ _ ?_ | refine And.intro (by omega) (fun _ => ?_) | refine And.intro (by omega) ?_ | refine And.intro (fun _ => ?_) (by omega))
      refine s_Mo_signOf (by omega) (by omega) ?_
      rw [rs_sg hs]
      have this := clear_ m 0 none none (by omega)
      rw [aw_0] at this
      repeat (first | exact this | refine hJ _ _ _ _ ?_ | refine And.intro (by omega) (fun _ => ?_) | refine And.intro (by omega) ?_ | refine And.intro (fun _ => ?_) (by omega))
    · repeat (first | refine hJ _ _ _ _ ?_ | refine And.intro (by omega) (fun _ => ?_) | refine And.intro (by omega) ?_ | refine And.intro (fun _ => ?_) (by omega))
      exact no (fun g => hs g.1)
  · by_cases h00 : 0 ≤ x
    · repeat (first | refine hJ _ _ _ _ ?_ | refine And.intro (by omega) (fun _ => ?_) | refine And.intro (by omega) ?_ | refine And.intro (fun _ => ?_) (by omega))
      exact no (fun g => hy g.2)
    · repeat (first | refine hJ _ _ _ _ ?_ | refine And.intro (by omega) (fun _ => ?_) | refine And.intro (by omega) ?_ | refine And.intro (fun _ => ?_) (by omega))
      exact no (fun g => hy g.2)
theorem o_triangle {E : AE} {l : Launch} {s : State} {k : Nat} {h : AH} (hk : k ≤ 600) (I : iv k h) : op_triangle E l s (iv (k + 1)) h := by
  obtain ⟨n, m, pt, rt, rg, C, R⟩ := I
  intro x hx
  have D := ic_rr C
  have hro := ro_b (rg := rg) D.1 (fun j hj => rr_p R D hj)
  refine op_p (P := an_tri rg m x) R (fun v hv => ?_) (c_triangle C hk hro hx) (fun v hv h1 R1 => m_triangle R1 D hro hx hv)
  rcases hv with ⟨-, rfl⟩ | ⟨⟨hs, h1, h2⟩, L, T, W, rfl⟩
  · decide
  · have := (cc_ok hs D.1 W).1 x.toNat (by omega)
    omega
/-- the start -/
theorem iv_start : iv 0 lp_h := by
  have z : ∀ c j, c ≠ 21 → lp_h c j = 0 := fun c j hc => by unfold lp_h; rw [am_up_o hc]
  have z21 : ∀ j, j ≠ 7 → lp_h 21 j = 0 := fun j hj => by unfold lp_h; simp [am_up, hj]
  refine ⟨0, 0, fun _ => (0, 0), fun _ => 0, fun _ => (0, 0), ⟨⟨z 1 2 (by decide), by decide, fun i hi => ?_, fun i hi => absurd hi (Nat.not_lt_zero _)⟩, ⟨z 17 2 (by decide), by decide, fun i hi => absurd hi (Nat.not_lt_zero _)⟩, ?_, ?_, ?_, ?_, ?_⟩, ⟨z 24 3 (by decide), by decide, fun i hi => absurd hi (Nat.not_lt_zero _), fun i hi => absurd hi (Nat.not_lt_zero _)⟩, z 24 5 (by decide), fun i hi => absurd hi (Nat.not_lt_zero _)⟩
  · rw [z 2 i (by decide), z 3 i (by decide)]; omega
  · unfold icV
    rw [z 1 3 (by decide), z 17 3 (by decide)]; omega
  · unfold icH
    rw [z 4 4 (by decide), z 1 3 (by decide)]
    exact ⟨by decide, by decide, fun _ => hv_0 (z 4 3 (by decide))⟩
  · unfold icL
    rw [z 12 4 (by decide), z 1 3 (by decide)]
    exact ⟨by decide, by decide, fun _ => ⟨0, fun _ => 0, ⟨rfl, fun s hs => absurd hs (Nat.not_lt_zero _)⟩, z 12 3 (by decide), fun i hi => absurd hi (Nat.not_lt_zero _)⟩⟩
  · unfold icC
    rw [z 19 5 (by decide), z 17 3 (by decide)]
    refine ⟨by decide, by decide, fun _ => ⟨z 19 3 (by decide), fun j hj => absurd hj (Nat.not_lt_zero _), .inr ⟨fun q => ?_, z 19 4 (by decide)⟩⟩⟩
    have := q.1
    omega
  · unfold icT
    rw [z21 4 (by decide), z 17 3 (by decide)]
    refine ⟨by decide, by decide, fun _ => ⟨fun _ => z21 3 (by decide), fun q => ?_⟩⟩
    have := q.1
    omega
theorem iv_mono (n : Nat) (h : AH) (I : iv n h) : iv (n + 1) h := by
  obtain ⟨a, b, c, d, e, C, R⟩ := I
  exact ⟨a, b, c, d, e, ic_mono C (by omega), R⟩
theorem iv_ops (l : Launch) (s : State) (E : AE) (htr : l.stackTraces = false) (h0 : tx_0 s E) (n : Nat) (h : AH) (hn : n ≤ 512) (I : iv n h) : op_all E l s (iv (n + 1)) h :=
  have hk : n ≤ 600 := by omega
  ⟨o_add I, o_clear I, o_count hk I, o_at htr h0 I, o_corner hk I, o_area hk I, o_layer hk I, o_pair I, o_distance htr h0 I, o_best hk I, o_side htr h0 hk I, o_where htr h0 hk I, o_nearest htr h0 I, o_beside htr h0 I, o_go I, o_stop I, o_place I, o_turn htr h0 I, o_crossings hk I, o_crossing hk I, o_simple hk I, o_round I, o_inside htr h0 hk I, o_triangle hk I, o_check hk I⟩
