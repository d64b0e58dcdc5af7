/-! what stays true from call to call -/
def icP (n : Nat) (pt : Nat → ge_P) (h : AH) : Prop := h 1 2 = (n : Int) ∧ n ≤ 60 ∧ pd_ok h ∧ ∀ i, i < n → pd_q h i = pt i
def icR (n m : Nat) (pt : Nat → ge_P) (rt : Nat → Nat) (rg : Nat → ge_P) (h : AH) : Prop := h 17 2 = (m : Int) ∧ m ≤ 40 ∧ ∀ j, j < m → h 18 j = (rt j : Int) ∧ rt j < n ∧ rg j = pt (rt j)
def icV (k : Nat) (h : AH) : Prop := 0 ≤ h 1 3 ∧ h 1 3 ≤ k ∧ 0 ≤ h 17 3 ∧ h 17 3 ≤ k
def hv (n : Nat) (pt : Nat → ge_P) (h : AH) : Prop := h 4 3 = (hu_m pt (fun _ => true) n : Int) ∧ ∀ j, j < hu_m pt (fun _ => true) n → h 6 j = hu_w pt (fun _ => true) n j
def icH (n : Nat) (pt : Nat → ge_P) (h : AH) : Prop := 0 ≤ h 4 4 ∧ h 4 4 ≤ h 1 3 ∧ (h 4 4 = h 1 3 → hv n pt h)
def lv (n : Nat) (pt : Nat → ge_P) (h : AH) : Prop := ∃ (s : Nat) (f0 : Nat → Int), ly_N pt n s ∧ h 12 3 = (s : Int) ∧ ∀ i, i < n → h 13 i = ly_l pt n f0 s i
def icL (n : Nat) (pt : Nat → ge_P) (h : AH) : Prop := 0 ≤ h 12 4 ∧ h 12 4 ≤ h 1 3 ∧ (h 12 4 = h 1 3 → lv n pt h)
def cv (m : Nat) (rg : Nat → ge_P) (h : AH) : Prop := h 19 3 = ((cr_l rg m).length : Int) ∧ (∀ j, j < (cr_l rg m).length → h 20 j = (cr_l rg m).getD j 0) ∧ ((rs rg m ∧ h 19 4 = 1) ∨ (¬ rs rg m ∧ h 19 4 = 0))
def icC (m : Nat) (rg : Nat → ge_P) (h : AH) : Prop := 0 ≤ h 19 5 ∧ h 19 5 ≤ h 17 3 ∧ (h 19 5 = h 17 3 → cv m rg h)
def tv (m : Nat) (rg : Nat → ge_P) (h : AH) : Prop := (¬ rs rg m → h 21 3 = 0) ∧ (rs rg m → ∃ (L : List Nat) (T : List Int), tr_w rg (tr_s rg m) m (m - 3) L T ∧ h 21 3 = (m : Int) - 2 ∧ h 21 7 = tr_s rg m ∧ (∀ j, j < m - 3 → h 22 j = T.getD j 0) ∧ h 22 (m - 3) = 4096 * (L.getD 0 0 : Nat) + 64 * (L.getD 1 0 : Nat) + (L.getD 2 0 : Nat))
def icT (m : Nat) (rg : Nat → ge_P) (h : AH) : Prop := 0 ≤ h 21 4 ∧ h 21 4 ≤ h 17 3 ∧ (h 21 4 = h 17 3 → tv m rg h)
def ic (k n m : Nat) (pt : Nat → ge_P) (rt : Nat → Nat) (rg : Nat → ge_P) (h : AH) : Prop := icP n pt h ∧ icR n m pt rt rg h ∧ icV k h ∧ icH n pt h ∧ icL n pt h ∧ icC m rg h ∧ icT m rg h
def ir (n m : Nat) (pt : Nat → ge_P) (rt : Nat → Nat) (h : AH) : Prop := mp h n pt ∧ h 24 5 = (m : Int) ∧ ∀ j, j < m → h 27 j = (rt j : Int)
def iv (k : Nat) (h : AH) : Prop := ∃ (n m : Nat) (pt : Nat → ge_P) (rt : Nat → Nat) (rg : Nat → ge_P), ic k n m pt rt rg h ∧ ir n m pt rt h
theorem icP_cg {n : Nat} {pt : Nat → ge_P} {h h' : AH} (H : icP n pt h) (e1 : h' 1 = h 1) (e2 : h' 2 = h 2) (e3 : h' 3 = h 3) : icP n pt h' := by
  unfold icP pd_ok pd_q at *
  rw [e1, e2, e3]
  exact H
theorem icR_cg {n m : Nat} {pt : Nat → ge_P} {rt : Nat → Nat} {rg : Nat → ge_P} {h h' : AH} (H : icR n m pt rt rg h) (e1 : h' 17 = h 17) (e2 : h' 18 = h 18) : icR n m pt rt rg h' := by
  unfold icR at *
  rw [e1, e2]
  exact H
theorem icV_cg {k : Nat} {h h' : AH} (H : icV k h) (e1 : h' 1 = h 1) (e2 : h' 17 = h 17) : icV k h' := by
  unfold icV at *
  rw [e1, e2]
  exact H
theorem icV_mono {k k' : Nat} {h : AH} (H : icV k h) (hk : k ≤ k') : icV k' h := by
  unfold icV at *
  omega
theorem icH_cg {n : Nat} {pt : Nat → ge_P} {h h' : AH} (H : icH n pt h) (e1 : h' 1 = h 1) (e2 : h' 4 = h 4) (e3 : h' 6 = h 6) : icH n pt h' := by
  unfold icH hv at *
  rw [e1, e2, e3]
  exact H
theorem icL_cg {n : Nat} {pt : Nat → ge_P} {h h' : AH} (H : icL n pt h) (e1 : h' 1 = h 1) (e2 : h' 12 = h 12) (e3 : h' 13 = h 13) : icL n pt h' := by
  unfold icL lv at *
  rw [e1, e2, e3]
  exact H
theorem icC_cg {m : Nat} {rg : Nat → ge_P} {h h' : AH} (H : icC m rg h) (e1 : h' 17 = h 17) (e2 : h' 19 = h 19) (e3 : h' 20 = h 20) : icC m rg h' := by
  unfold icC cv at *
  rw [e1, e2, e3]
  exact H
theorem icT_cg {m : Nat} {rg : Nat → ge_P} {h h' : AH} (H : icT m rg h) (e1 : h' 17 = h 17) (e2 : h' 21 = h 21) (e3 : h' 22 = h 22) : icT m rg h' := by
  unfold icT tv at *
  rw [e1, e2, e3]
  exact H
theorem ic_cg {k n m : Nat} {pt : Nat → ge_P} {rt : Nat → Nat} {rg : Nat → ge_P} {h h' : AH} (C : ic k n m pt rt rg h) (f : ∀ c, c < 24 → h' c = h c) : ic k n m pt rt rg h' := by
  obtain ⟨c1, c2, c3, c4, c5, c6, c7⟩ := C
  exact ⟨icP_cg c1 (f _ (by decide)) (f _ (by decide)) (f _ (by decide)), icR_cg c2 (f _ (by decide)) (f _ (by decide)), icV_cg c3 (f _ (by decide)) (f _ (by decide)), icH_cg c4 (f _ (by decide)) (f _ (by decide)) (f _ (by decide)), icL_cg c5 (f _ (by decide)) (f _ (by decide)) (f _ (by decide)), icC_cg c6 (f _ (by decide)) (f _ (by decide)) (f _ (by decide)), icT_cg c7 (f _ (by decide)) (f _ (by decide)) (f _ (by decide))⟩
theorem ic_mono {k k' n m : Nat} {pt : Nat → ge_P} {rt : Nat → Nat} {rg : Nat → ge_P} {h : AH} (C : ic k n m pt rt rg h) (hk : k ≤ k') : ic k' n m pt rt rg h := by
  obtain ⟨c1, c2, c3, c4⟩ := C
  exact ⟨c1, c2, icV_mono c3 hk, c4⟩
theorem ir_cg {n m : Nat} {pt : Nat → ge_P} {rt : Nat → Nat} {h h' : AH} (R : ir n m pt rt h) (f : ∀ c, 24 ≤ c → c < 34 → h' c = h c) : ir n m pt rt h' := by
  obtain ⟨r1, r2, r3⟩ := R
  refine ⟨mp_cg r1 (by rw [f 24 (by decide) (by decide)]) (f 25 (by decide) (by decide)) (f 26 (by decide) (by decide)), ?_, ?_⟩
  · rw [f 24 (by decide) (by decide)]; exact r2
  · rw [f 27 (by decide) (by decide)]; exact r3
/-- the class's side of a call -/
abbrev cq (k n m : Nat) (pt : Nat → ge_P) (rt : Nat → Nat) (rg : Nat → ge_P) (h : AH) (v : Option AV) : AR := fun r h1 => r = v ∧ (∀ c, 24 ≤ c → h1 c = h c) ∧ ic k n m pt rt rg h1
/-- the reference's side of a call -/
abbrev rq (n m : Nat) (pt : Nat → ge_P) (rt : Nat → Nat) (h : AH) (t : Int) (v : Option AV) : AR := fun r h1 => r = v ∧ (∀ c, c < 24 ∨ c = 34 → h1 c = h c) ∧ h1 24 0 = t ∧ ir n m pt rt h1
theorem op_i {E : AE} {l : Launch} {kc km : Nat} {as : List AV} {h : AH} {k n m n' m' : Nat} {pt pt' : Nat → ge_P} {rt rt' : Nat → Nat} {rg' : Nat → ge_P} (R : ir n m pt rt h) {v t : Int} (v1 : -2147483648 ≤ v) (v2 : v < 2147483648) (hc : am_g E l kc (.inr (.inr 0) :: as) h (cq k n' m' pt' rt' rg' h (some (.inl v)))) (hr : ∀ h1, ir n m pt rt h1 → am_g E l km (.inr (.inr 24) :: as) h1 (rq n' m' pt' rt' h1 t (some (.inl v)))) : lo_I E l kc km as (iv k) h := by
  refine am_g_mono hc ?_
  rintro r h1 ⟨rfl, f, C⟩
  refine ⟨v, rfl, v1, v2, ?_⟩
  refine am_g_mono (hr h1 (ir_cg R (fun c c1 _ => f c c1))) ?_
  rintro r h2 ⟨rfl, f2, -, R2⟩
  exact ⟨rfl, n', m', pt', rt', rg', ic_cg C (fun c hc => f2 c (.inl hc)), R2⟩
theorem op_w {E : AE} {l : Launch} {kc km : Nat} {as : List AV} {h : AH} {k n m n' m' : Nat} {pt pt' : Nat → ge_P} {rt rt' : Nat → Nat} {rg' : Nat → ge_P} (R : ir n m pt rt h) {v t : Int} (v1 : -9223372036854775808 ≤ v) (v2 : v < 9223372036854775808) (hc : am_g E l kc (.inr (.inr 0) :: as) h (cq k n' m' pt' rt' rg' h (some (.inr (.inl v))))) (hr : ∀ h1, ir n m pt rt h1 → am_g E l km (.inr (.inr 24) :: as) h1 (rq n' m' pt' rt' h1 t (some (.inr (.inl v))))) : lo_W E l kc km as (iv k) h := by
  refine am_g_mono hc ?_
  rintro r h1 ⟨rfl, f, C⟩
  refine ⟨v, rfl, v1, v2, ?_⟩
  refine am_g_mono (hr h1 (ir_cg R (fun c c1 _ => f c c1))) ?_
  rintro r h2 ⟨rfl, f2, -, R2⟩
  exact ⟨rfl, n', m', pt', rt', rg', ic_cg C (fun c hc => f2 c (.inl hc)), R2⟩
theorem op_h {E : AE} {l : Launch} {s0 : State} {q : HM} {kc km : Nat} {as : List AV} {h : AH} {k n m : Nat} {pt : Nat → ge_P} {rt : Nat → Nat} {rg : Nat → ge_P} (R : ir n m pt rt h) {v : Int} (v1 : -2147483648 ≤ v) (v2 : v < 2147483648)
    (hp : ∀ Q : AR, am_g E l kc (.inr (.inr 0) :: as) h (fun r h' => ∃ v : Int, r = some (.inl v) ∧ -2147483648 ≤ v ∧ v < 2147483648 ∧ Q (some (.inl 0)) (am_up h' 34 0 v)) → hp_G E l s0 q (.inr (.inr 0) :: as ++ [.inr (.inr 34)]) h Q)
    (hc : am_g E l kc (.inr (.inr 0) :: as) h (cq k n m pt rt rg h (some (.inl v)))) (hr : ∀ h1, ir n m pt rt h1 → am_g E l km (.inr (.inr 24) :: as) h1 (rq n m pt rt h1 0 (some (.inl v)))) : lo_H E l s0 q km as (iv k) h := by
  refine hp _ (am_g_mono hc ?_)
  rintro r h1 ⟨rfl, f, C⟩
  refine ⟨v, rfl, v1, v2, 0, rfl, by decide, by decide, ?_⟩
  refine am_g_mono (hr (am_up h1 34 0 v) (ir_cg R (fun c c1 c2 => by rw [am_up_o (by omega)]; exact f c c1))) ?_
  rintro r h2 ⟨rfl, f2, e2, R2⟩
  refine ⟨v, rfl, v1, v2, e2, fun _ => ?_, n, m, pt, rt, rg, ic_cg C (fun c hc => by rw [f2 c (.inl hc), am_up_o (by omega)]), R2⟩
  rw [f2 34 (.inr rfl)]
  simp [am_up]
theorem op_hl {E : AE} {l : Launch} {s0 : State} {q : HM} {kc km : Nat} {as : List AV} {h : AH} {k n m : Nat} {pt : Nat → ge_P} {rt : Nat → Nat} {rg : Nat → ge_P} (R : ir n m pt rt h) {v : Int} (v1 : -9223372036854775808 ≤ v) (v2 : v < 9223372036854775808)
    (hp : ∀ Q : AR, am_g E l kc (.inr (.inr 0) :: as) h (fun r h' => ∃ v : Int, r = some (.inr (.inl v)) ∧ Q (some (.inl 0)) (am_up h' 34 0 v)) → hp_G E l s0 q (.inr (.inr 0) :: as ++ [.inr (.inr 34)]) h Q)
    (hc : am_g E l kc (.inr (.inr 0) :: as) h (cq k n m pt rt rg h (some (.inr (.inl v))))) (hr : ∀ h1, ir n m pt rt h1 → am_g E l km (.inr (.inr 24) :: as) h1 (rq n m pt rt h1 0 (some (.inr (.inl v))))) : lo_HL E l s0 q km as (iv k) h := by
  refine hp _ (am_g_mono hc ?_)
  rintro r h1 ⟨rfl, f, C⟩
  refine ⟨v, rfl, 0, rfl, by decide, by decide, ?_⟩
  refine am_g_mono (hr (am_up h1 34 0 v) (ir_cg R (fun c c1 c2 => by rw [am_up_o (by omega)]; exact f c c1))) ?_
  rintro r h2 ⟨rfl, f2, e2, R2⟩
  refine ⟨v, rfl, v1, v2, e2, fun _ => ?_, n, m, pt, rt, rg, ic_cg C (fun c hc => by rw [f2 c (.inl hc), am_up_o (by omega)]), R2⟩
  rw [f2 34 (.inr rfl)]
  simp [am_up]
/-- a call that throws, on both sides -/
theorem op_t {E : AE} {l : Launch} {km : Nat} {as : List AV} {h h1 : AH} {k n m : Nat} {pt : Nat → ge_P} {rt : Nat → Nat} {rg : Nat → ge_P} (R : ir n m pt rt h) (C : ic k n m pt rt rg h1) (f : ∀ c, 24 ≤ c → h1 c = h c) {t : Int} (t1 : 1 ≤ t) (t2 : t ≤ 2) (hr : ∀ h1, ir n m pt rt h1 → am_g E l km (.inr (.inr 24) :: as) h1 (rq n m pt rt h1 t (some (.inl 0)))) :
    ∃ k' : Int, some (.inl t : AV) = some (.inl k') ∧ 0 ≤ k' ∧ k' ≤ 2 ∧ am_g E l km (.inr (.inr 24) :: as) h1 (fun r h2 => ∃ v : Int, r = some (.inl v) ∧ -2147483648 ≤ v ∧ v < 2147483648 ∧ h2 24 0 = k' ∧ (k' = 0 → h2 34 0 = v) ∧ iv k h2) := by
  refine ⟨t, rfl, by omega, t2, ?_⟩
  refine am_g_mono (hr h1 (ir_cg R (fun c c1 _ => f c c1))) ?_
  rintro r h2 ⟨rfl, f2, e2, R2⟩
  exact ⟨0, rfl, by decide, by decide, e2, fun g => by omega, n, m, pt, rt, rg, ic_cg C (fun c hc => f2 c (.inl hc)), R2⟩
theorem op_tl {E : AE} {l : Launch} {km : Nat} {as : List AV} {h h1 : AH} {k n m : Nat} {pt : Nat → ge_P} {rt : Nat → Nat} {rg : Nat → ge_P} (R : ir n m pt rt h) (C : ic k n m pt rt rg h1) (f : ∀ c, 24 ≤ c → h1 c = h c) {t : Int} (t1 : 1 ≤ t) (t2 : t ≤ 2) (hr : ∀ h1, ir n m pt rt h1 → am_g E l km (.inr (.inr 24) :: as) h1 (rq n m pt rt h1 t (some (.inr (.inl 0))))) :
    ∃ k' : Int, some (.inl t : AV) = some (.inl k') ∧ 0 ≤ k' ∧ k' ≤ 2 ∧ am_g E l km (.inr (.inr 24) :: as) h1 (fun r h2 => ∃ v : Int, r = some (.inr (.inl v)) ∧ -9223372036854775808 ≤ v ∧ v < 9223372036854775808 ∧ h2 24 0 = k' ∧ (k' = 0 → h2 34 0 = v) ∧ iv k h2) := by
  refine ⟨t, rfl, by omega, t2, ?_⟩
  refine am_g_mono (hr h1 (ir_cg R (fun c c1 _ => f c c1))) ?_
  rintro r h2 ⟨rfl, f2, e2, R2⟩
  exact ⟨0, rfl, by decide, by decide, e2, fun g => by omega, n, m, pt, rt, rg, ic_cg C (fun c hc => f2 c (.inl hc)), R2⟩
