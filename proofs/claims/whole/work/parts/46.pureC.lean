/-! layers, pairs, the nearest -/
theorem su_pos {g : Nat → Int} {s e : Nat} (h : 0 < su g s e) : ∃ j, s ≤ j ∧ j < e ∧ 0 < g j := by
  induction e with
  | zero => rw [su_0 (by omega)] at h; omega
  | succ e ih =>
    rcases (show e < s ∨ s ≤ e by omega) with q | q
    · rw [su_0 (by omega)] at h; omega
    · rw [su_s q] at h
      by_cases h1 : 0 < su g s e
      · obtain ⟨j, h2, h3, h4⟩ := ih h1
        exact ⟨j, h2, by omega, h4⟩
      · exact ⟨e, q, by omega, by omega⟩
theorem su_ge {g : Nat → Int} {s e j : Nat} (h : ∀ j, s ≤ j → j < e → 0 ≤ g j) (h1 : s ≤ j) (h2 : j < e) : g j ≤ su g s e := by
  induction e with
  | zero => omega
  | succ e ih =>
    rw [su_s (by omega)]
    rcases (show j = e ∨ j < e by omega) with q | q
    · subst q
      have := (su_b (g := g) (s := s) (e := j) (A := 0) (B := 0) (by omega) (by omega))
      have h0 : 0 ≤ su g s j := by
        have key : ∀ e', e' ≤ j → 0 ≤ su g s e' := by
          intro e'
          induction e' with
          | zero => intro _; rw [su_0 (by omega)]; exact Int.le_refl _
          | succ e' ih' =>
            intro he
            rcases (show e' < s ∨ s ≤ e' by omega) with q | q
            · rw [su_0 (by omega)]; exact Int.le_refl _
            · rw [su_s q]
              have := h e' q (by omega)
              have := ih' (by omega)
              omega
        exact key j (Nat.le_refl _)
      omega
    · have := ih (fun j a b => h j a (by omega)) q
      have := h e (by omega) (by omega)
      omega
/-- who is left after s layers -/
def ly_k (pt : Nat → ge_P) (n : Nat) : Nat → Nat → Bool
  | 0 => fun _ => true
  | s + 1 => fun p => ly_k pt n s p && !decide (hu_a pt (ly_k pt n s) n (pt p) = 0)
/-- who goes with layer s -/
abbrev ly_g (pt : Nat → ge_P) (n s p : Nat) : Prop := ly_k pt n s p = true ∧ hu_a pt (ly_k pt n s) n (pt p) = 0
def ly_l (pt : Nat → ge_P) (n : Nat) (f0 : Nat → Int) : Nat → Nat → Int
  | 0 => f0
  | s + 1 => fun p => if ly_g pt n s p then (s : Int) else ly_l pt n f0 s p
def ly_c (pt : Nat → ge_P) (n s : Nat) : Int := su (fun p => if ly_k pt n s p = true then 1 else 0) 0 n
def ly_t (pt : Nat → ge_P) (n s : Nat) (p : Nat) : Int := if ly_g pt n s p then 1 else 0
theorem ly_k_s {pt : Nat → ge_P} {n s p : Nat} : ly_k pt n (s + 1) p = true ↔ (ly_k pt n s p = true ∧ ¬ hu_a pt (ly_k pt n s) n (pt p) = 0) := by
  show (ly_k pt n s p && !decide (hu_a pt (ly_k pt n s) n (pt p) = 0)) = true ↔ _
  simp
theorem ly_c_s (pt : Nat → ge_P) (n s : Nat) : ly_c pt n (s + 1) = ly_c pt n s - su (ly_t pt n s) 0 n := by
  have e : ly_c pt n s = su (fun p => (if ly_k pt n (s + 1) p = true then 1 else 0) + ly_t pt n s p) 0 n := by
    refine su_congr (fun p _ _ => ?_)
    unfold ly_t
    by_cases h1 : ly_k pt n s p = true
    · by_cases h2 : hu_a pt (ly_k pt n s) n (pt p) = 0
      · rw [if_pos h1, if_neg (fun g => (ly_k_s.mp g).2 h2), if_pos ⟨h1, h2⟩]; rfl
      · rw [if_pos h1, if_pos (ly_k_s.mpr ⟨h1, h2⟩), if_neg (fun g => h2 g.2)]; rfl
    · rw [if_neg h1, if_neg (fun g => h1 (ly_k_s.mp g).1), if_neg (fun g => h1 g.1)]; rfl
  rw [e, su_add]
  unfold ly_c
  omega
theorem ly_t_b (pt : Nat → ge_P) (n s p : Nat) : 0 ≤ ly_t pt n s p ∧ ly_t pt n s p ≤ 1 := by
  unfold ly_t
  split <;> omega
theorem ly_c_b (pt : Nat → ge_P) (n s : Nat) : 0 ≤ ly_c pt n s ∧ ly_c pt n s ≤ n := by
  have := su_b (g := fun p => if ly_k pt n s p = true then 1 else 0) (s := 0) (e := n) (A := 0) (B := 1) (by omega) (by omega) (fun j _ _ => by
    show 0 ≤ (if ly_k pt n s j = true then (1 : Int) else 0) ∧ (if ly_k pt n s j = true then (1 : Int) else 0) ≤ 1
    split <;> omega)
  unfold ly_c
  omega
theorem ly_c_0 (pt : Nat → ge_P) (n : Nat) : ly_c pt n 0 = n := by
  unfold ly_c
  have key : ∀ e, su (fun p => if ly_k pt n 0 p = true then 1 else 0) 0 e = (e : Int) := by
    intro e
    induction e with
    | zero => rfl
    | succ e ih =>
      rw [su_s (by omega), ih, if_pos (show ly_k pt n 0 e = true from rfl)]
      omega
  exact key n
theorem ly_c_dec {pt : Nat → ge_P} {n s : Nat} (h : 0 < ly_c pt n s) : ly_c pt n (s + 1) < ly_c pt n s := by
  obtain ⟨p, -, hp, hg⟩ := su_pos h
  have hk : ly_k pt n s p = true := by
    apply Classical.byContradiction
    intro g
    rw [if_neg g] at hg
    omega
  have hm := hu_m_pos (pt := pt) hp hk
  have hw := (hu_m_N pt (ly_k pt n s) n).2 0 hm
  have hok := hu_w_ok pt (ly_k pt n s) n 0 hw
  have hf := hu_a_first hm
  have hg : ly_t pt n s (hu_w pt (ly_k pt n s) n 0).toNat = 1 := if_pos ⟨hok.2.1, hf⟩
  have := su_ge (g := ly_t pt n s) (s := 0) (e := n) (j := (hu_w pt (ly_k pt n s) n 0).toNat) (fun j _ _ => (ly_t_b pt n s j).1) (by omega) hok.1
  rw [ly_c_s]
  omega
/-- how many layers there are -/
def ly_N (pt : Nat → ge_P) (n s : Nat) : Prop := ly_c pt n s = 0 ∧ ∀ s', s' < s → 0 < ly_c pt n s'
theorem ly_N_uniq {pt : Nat → ge_P} {n s s' : Nat} (h : ly_N pt n s) (h' : ly_N pt n s') : s = s' := by
  rcases (show s < s' ∨ s' < s ∨ s = s' by omega) with g | g | g
  · have := h'.2 s g; have := h.1; omega
  · have := h.2 s' g; have := h'.1; omega
  · exact g
theorem ly_c_le {pt : Nat → ge_P} {n : Nat} : ∀ s, (∀ s', s' < s → 0 < ly_c pt n s') → ly_c pt n s ≤ (n : Int) - s := by
  intro s
  induction s with
  | zero => intro _; have := ly_c_b pt n 0; omega
  | succ s ih =>
    intro h
    have := ih (fun s' hs => h s' (by omega))
    have := ly_c_dec (h s (by omega))
    omega
theorem ly_N_le {pt : Nat → ge_P} {n s : Nat} (h : ly_N pt n s) : s ≤ n := by
  have := ly_c_le s h.2
  have := h.1
  omega
theorem ly_l_eq {pt : Nat → ge_P} {n : Nat} (f0 f1 : Nat → Int) : ∀ s p, ¬ ly_k pt n s p = true → ly_l pt n f0 s p = ly_l pt n f1 s p ∧ 0 ≤ ly_l pt n f0 s p ∧ ly_l pt n f0 s p < s := by
  intro s
  induction s with
  | zero => intro p h; exact absurd rfl h
  | succ s ih =>
    intro p h
    have e0 : ly_l pt n f0 (s + 1) p = if ly_g pt n s p then (s : Int) else ly_l pt n f0 s p := rfl
    have e1 : ly_l pt n f1 (s + 1) p = if ly_g pt n s p then (s : Int) else ly_l pt n f1 s p := rfl
    by_cases hg : ly_g pt n s p
    · rw [e0, e1, if_pos hg, if_pos hg]
      exact ⟨rfl, by omega, by omega⟩
    · rw [e0, e1, if_neg hg, if_neg hg]
      have := ih p (fun g => h (ly_k_s.mpr ⟨g, fun g2 => hg ⟨g, g2⟩⟩))
      exact ⟨this.1, this.2.1, by omega⟩
theorem ly_N_all {pt : Nat → ge_P} {n s p : Nat} (h : ly_N pt n s) (hp : p < n) : ¬ ly_k pt n s p = true := by
  intro g
  have := su_ge (g := fun p => if ly_k pt n s p = true then 1 else 0) (s := 0) (e := n) (j := p) (fun j _ _ => by
    show 0 ≤ (if ly_k pt n s j = true then (1 : Int) else 0)
    split <;> omega) (by omega) hp
  have e : (if ly_k pt n s p = true then (1 : Int) else 0) = 1 := if_pos g
  have h1 := h.1
  unfold ly_c at h1
  simp only [e, h1] at this
  omega
/-- the nearest -/
def ne_ok (d : Nat → Int) (n f : Nat) : Prop := f < n ∧ ∀ j, j < n → d f ≤ d j ∧ (j < f → d f < d j)
theorem ne_uniq {d : Nat → Int} {n f g : Nat} (hf : ne_ok d n f) (hg : ne_ok d n g) : f = g := by
  have a := hf.2 g hg.1
  have b := hg.2 f hf.1
  rcases (show f < g ∨ g < f ∨ f = g by omega) with q | q | q
  · have := b.2 q; omega
  · have := a.2 q; omega
  · exact q
/-! the pair that is farthest or nearest -/
def pr_w (way best d : Int) : Prop := (way = 0 ∧ best < d) ∨ (¬ way = 0 ∧ d < best)
theorem fo_peel {α : Type} {f : Nat → α → α} {a : α} {s e : Nat} (h : s < e) : fo f a s e = fo f (f s a) (s + 1) e := by
  induction e with
  | zero => omega
  | succ e ih =>
    rcases (show s = e ∨ s < e by omega) with q | q
    · subst q
      rw [fo_s (Nat.le_refl _), fo_0 (Nat.le_refl _), fo_0 (Nat.le_refl _)]
    · rw [fo_s (by omega), fo_s (by omega), ih q]
/-- what has been found among the pairs before (i, k) -/
def pr_ok (pt : Nat → ge_P) (way : Int) (n : Nat) (i k : Nat) (st : Int × Int) : Prop := ∃ a b : Nat, a < b ∧ b < n ∧ (a < i ∨ (a = i ∧ b < k)) ∧ st.1 = 64 * (a : Int) + b ∧ st.2 = hu_d (pt a) (pt b) ∧ ∀ a' b' : Nat, a' < b' → b' < n → (a' < i ∨ (a' = i ∧ b' < k)) → ¬ pr_w way st.2 (hu_d (pt a') (pt b')) ∧ ((a' < a ∨ (a' = a ∧ b' < b)) → pr_w way (hu_d (pt a') (pt b')) st.2)
theorem pr_uniq {pt : Nat → ge_P} {way : Int} {n i k : Nat} {st st' : Int × Int} (h : pr_ok pt way n i k st) (h' : pr_ok pt way n i k st') : st = st' := by
  obtain ⟨a, b, h1, h2, h3, h4, h5, h6⟩ := h
  obtain ⟨a', b', h1', h2', h3', h4', h5', h6'⟩ := h'
  have p := h6 a' b' h1' h2' h3'
  have q := h6' a b h1 h2 h3
  rw [← h5'] at p
  rw [← h5] at q
  have e : a = a' ∧ b = b' := by
    rcases (show (a' < a ∨ (a' = a ∧ b' < b)) ∨ (a < a' ∨ (a = a' ∧ b < b')) ∨ (a = a' ∧ b = b') by omega) with g | g | g
    · exact absurd (p.2 g) q.1
    · exact absurd (q.2 g) p.1
    · exact g
  obtain ⟨rfl, rfl⟩ := e
  exact Prod.ext (by rw [h4, h4']) (by rw [h5, h5'])
theorem pr_w_tr {way a b c : Int} (h : pr_w way a b) (h' : pr_w way b c) : pr_w way a c := by unfold pr_w at *; omega
theorem pr_w_trn {way a b c : Int} (h : pr_w way a b) (h' : ¬ pr_w way a c) : pr_w way c b := by unfold pr_w at *; omega
theorem pr_w_irr {way a : Int} : ¬ pr_w way a a := by unfold pr_w; omega
/-- a pair that is better is taken -/
theorem pr_take {pt : Nat → ge_P} {way : Int} {n i k : Nat} {st : Int × Int} (h : pr_ok pt way n i k st) (hik : i < k) (hk : k < n) (hw : pr_w way st.2 (hu_d (pt i) (pt k))) : pr_ok pt way n i (k + 1) (64 * (i : Int) + k, hu_d (pt i) (pt k)) := by
  obtain ⟨a, b, h1, h2, h3, h4, h5, h6⟩ := h
  refine ⟨i, k, hik, hk, by omega, rfl, rfl, fun a' b' g1 g2 g3 => ?_⟩
  rcases (show (a' < i ∨ (a' = i ∧ b' < k)) ∨ (a' = i ∧ b' = k) by omega) with g | ⟨rfl, rfl⟩
  · have := h6 a' b' g1 g2 g
    refine ⟨fun q => this.1 (pr_w_tr hw q), fun _ => pr_w_trn hw this.1⟩
  · exact ⟨pr_w_irr, fun q => by omega⟩
theorem pr_keep {pt : Nat → ge_P} {way : Int} {n i k : Nat} {st : Int × Int} (h : pr_ok pt way n i k st) (hw : ¬ pr_w way st.2 (hu_d (pt i) (pt k))) : pr_ok pt way n i (k + 1) st := by
  obtain ⟨a, b, h1, h2, h3, h4, h5, h6⟩ := h
  refine ⟨a, b, h1, h2, by omega, h4, h5, fun a' b' g1 g2 g3 => ?_⟩
  rcases (show (a' < i ∨ (a' = i ∧ b' < k)) ∨ (a' = i ∧ b' = k) by omega) with g | ⟨rfl, rfl⟩
  · exact h6 a' b' g1 g2 g
  · exact ⟨hw, fun q => by omega⟩
theorem pr_row {pt : Nat → ge_P} {way : Int} {n i : Nat} {st : Int × Int} (h : pr_ok pt way n i n st) : pr_ok pt way n (i + 1) (i + 1 + 1) st := by
  obtain ⟨a, b, h1, h2, h3, h4, h5, h6⟩ := h
  refine ⟨a, b, h1, h2, by omega, h4, h5, fun a' b' g1 g2 g3 => h6 a' b' g1 g2 (by omega)⟩
theorem pr_first {pt : Nat → ge_P} {way : Int} {n : Nat} (h : 2 ≤ n) : pr_ok pt way n 0 2 (1, hu_d (pt 0) (pt 1)) := by
  refine ⟨0, 1, by omega, by omega, by omega, rfl, rfl, fun a' b' g1 g2 g3 => ?_⟩
  obtain ⟨rfl, rfl⟩ : a' = 0 ∧ b' = 1 := by omega
  exact ⟨pr_w_irr, fun q => by omega⟩
theorem pr_fin {pt : Nat → ge_P} {way : Int} {n k k' : Nat} {st : Int × Int} (h : pr_ok pt way n n k st) : pr_ok pt way n n k' st := by
  obtain ⟨a, b, h1, h2, h3, h4, h5, h6⟩ := h
  exact ⟨a, b, h1, h2, by omega, h4, h5, fun a' b' g1 g2 g3 => h6 a' b' g1 g2 (by omega)⟩
theorem pr_b {pt : Nat → ge_P} {way : Int} {n i k : Nat} {st : Int × Int} (h : pr_ok pt way n i k st) (hn : n ≤ 60) : 0 ≤ st.1 ∧ st.1 < 4096 := by
  obtain ⟨a, b, h1, h2, h3, h4, h5, h6⟩ := h
  omega
