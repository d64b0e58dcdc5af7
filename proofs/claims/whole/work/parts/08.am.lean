/-! THE PLAIN MACHINE: values are whole numbers and numbers of cells; a heap is a function; one layout of cells for ever -/
abbrev AV : Type := Int ⊕ (Int ⊕ Nat)
abbrev AH : Type := Nat → Nat → Int
abbrev AE : Type := ((Nat → ClassId) × (Nat → Nat → Nat)) × (ClassId × ClassId × ClassId) × (Nat → Nat)
abbrev AJ : Type := Nat → List (Option AV) → List AV → AH → Prop
abbrev AR : Type := Option AV → AH → Prop
abbrev AG : Type := Nat → List AV → AH → AR → Prop
abbrev AD : Type := AG → AJ → AR → AJ
def am_v (E : AE) : AV → Value
  | .inl a => .int (Int32.ofInt a)
  | .inr (.inl a) => .long (Int64.ofInt a)
  | .inr (.inr c) => .ref (E.2.2 c)
/-- a cell of the layout: an object (its class's number, for each field the cell that it names, or none: an int), or an array (0 of ints, 1 of longs, 2 of booleans; its length) -/
abbrev AL : Type := (Nat × List (Option Nat)) ⊕ (Nat × Nat)
def am_f (E : AE) (h : Nat → Int) : Nat → List (Option Nat) → List Value
  | _, [] => []
  | k, none :: fs => .int (Int32.ofInt (h k)) :: am_f E h (k + 1) fs
  | k, some r :: fs => .ref (E.2.2 r) :: am_f E h (k + 1) fs
def am_c (E : AE) (h : Nat → Int) : AL → va_E
  | .inl o => .inr (o.1, am_f E h 0 o.2)
  | .inr (0, n) => .inl (E.2.1.1, n, .inl (fun j => Int32.ofInt (h j)))
  | .inr (1, n) => .inl (E.2.1.2.1, n, .inr (.inl (fun j => Int64.ofInt (h j))))
  | .inr (_, n) => .inl (E.2.1.2.2, n, .inl (fun j => Int32.ofInt (h j)))
def am_w (Y : List AL) (E : AE) (h : AH) : va_W := Y.mapIdx (fun c q => (E.2.2 c, am_c E (h c) q))
theorem am_w_at {Y : List AL} {E : AE} {h : AH} {c : Nat} {q : AL} (hc : Y[c]? = some q) : (am_w Y E h)[c]? = some (E.2.2 c, am_c E (h c) q) := by
  unfold am_w
  rw [List.getElem?_mapIdx, hc]
  rfl
def am_up (h : AH) (c i : Nat) (v : Int) : AH := fun c' j => if c' = c ∧ j = i then v else h c' j
theorem am_f_len (E : AE) (h : Nat → Int) : ∀ (k : Nat) (fs : List (Option Nat)), (am_f E h k fs).length = fs.length
  | _, [] => rfl
  | k, none :: fs => by simp [am_f, am_f_len E h (k + 1) fs]
  | k, some r :: fs => by simp [am_f, am_f_len E h (k + 1) fs]
theorem am_f_int (E : AE) (h : Nat → Int) : ∀ (k : Nat) (fs : List (Option Nat)) (i : Nat), fs[i]? = some none → (am_f E h k fs)[i]? = some (.int (Int32.ofInt (h (k + i))))
  | _, [], i, hi => by simp at hi
  | k, none :: fs, 0, hi => by simp [am_f]
  | k, some r :: fs, 0, hi => by simp at hi
  | k, none :: fs, i + 1, hi => by
    have := am_f_int E h (k + 1) fs i (by simpa using hi)
    simp only [am_f, List.getElem?_cons_succ]
    rw [this]
    congr 4
    omega
  | k, some r :: fs, i + 1, hi => by
    have := am_f_int E h (k + 1) fs i (by simpa using hi)
    simp only [am_f, List.getElem?_cons_succ]
    rw [this]
    congr 4
    omega
theorem am_f_ref (E : AE) (h : Nat → Int) : ∀ (k : Nat) (fs : List (Option Nat)) (i r : Nat), fs[i]? = some (some r) → (am_f E h k fs)[i]? = some (.ref (E.2.2 r))
  | _, [], i, r, hi => by simp at hi
  | k, none :: fs, 0, r, hi => by simp at hi
  | k, some r' :: fs, 0, r, hi => by simp at hi; subst hi; simp [am_f]
  | k, none :: fs, i + 1, r, hi => by
    simp only [am_f, List.getElem?_cons_succ]
    exact am_f_ref E h (k + 1) fs i r (by simpa using hi)
  | k, some r' :: fs, i + 1, r, hi => by
    simp only [am_f, List.getElem?_cons_succ]
    exact am_f_ref E h (k + 1) fs i r (by simpa using hi)
theorem am_f_same (E : AE) {h g : Nat → Int} : ∀ (k : Nat) (fs : List (Option Nat)), (∀ i, fs[i]? = some none → h (k + i) = g (k + i)) → am_f E h k fs = am_f E g k fs
  | _, [], _ => rfl
  | k, none :: fs, hh => by
    have h0 := hh 0 rfl
    have := am_f_same E (h := h) (g := g) (k + 1) fs (fun i hi => by have := hh (i + 1) (by simpa using hi); rw [show k + 1 + i = k + (i + 1) by omega]; exact this)
    simp only [am_f]
    rw [this, show h k = g k from h0]
  | k, some r :: fs, hh => by
    have := am_f_same E (h := h) (g := g) (k + 1) fs (fun i hi => by have := hh (i + 1) (by simpa using hi); rw [show k + 1 + i = k + (i + 1) by omega]; exact this)
    simp only [am_f]
    rw [this]
theorem am_f_set (E : AE) (h : Nat → Int) (v : Int) : ∀ (k : Nat) (fs : List (Option Nat)) (i : Nat), fs[i]? = some none → am_f E (fun j => if j = k + i then v else h j) k fs = (am_f E h k fs).set i (.int (Int32.ofInt v))
  | _, [], i, hi => by simp at hi
  | k, some r :: fs, 0, hi => by simp at hi
  | k, none :: fs, 0, hi => by
    simp only [am_f, List.set_cons_zero]
    rw [am_f_same E (h := fun j => if j = k + 0 then v else h j) (g := h) (k + 1) fs (fun i _ => by rw [if_neg (by omega)])]
    simp
  | k, none :: fs, i + 1, hi => by
    have := am_f_set E h v (k + 1) fs i (by simpa using hi)
    simp only [am_f, List.set_cons_succ]
    rw [← this, if_neg (by omega)]
    congr 2
    funext j
    rw [show k + 1 + i = k + (i + 1) by omega]
  | k, some r :: fs, i + 1, hi => by
    have := am_f_set E h v (k + 1) fs i (by simpa using hi)
    simp only [am_f, List.set_cons_succ]
    rw [← this]
    congr 2
    funext j
    rw [show k + 1 + i = k + (i + 1) by omega]
/-- a write to one place of one cell -/
theorem am_w_set {Y : List AL} {E : AE} {h : AH} {c i : Nat} {v : Int} {q : AL} {x : va_E} (hc : Y[c]? = some q) (hx : am_c E (fun j => if j = i then v else h c j) q = x) : am_w Y E (am_up h c i v) = (am_w Y E h).set c (E.2.2 c, x) := by
  apply List.ext_getElem?
  intro k
  have hl : c < Y.length := (List.getElem?_eq_some_iff.mp hc).1
  by_cases hk : k = c
  · subst hk
    rw [List.getElem?_set_self (by simp [am_w, hl]), am_w_at hc, ← hx]
    congr 3
    funext j
    simp [am_up]
  · rw [List.getElem?_set_ne (Ne.symm hk)]
    unfold am_w
    rw [List.getElem?_mapIdx, List.getElem?_mapIdx]
    congr 1
    funext q
    congr 2
    funext j
    simp [am_up, hk]
/-- which cells may change -/
def am_A (Y : List AL) (E : AE) (sz : Nat) : Nat → Prop := fun a => (∃ c, c < Y.length ∧ a = E.2.2 c) ∨ sz ≤ a
theorem am_D_any {Y : List AL} {E : AE} {A : Nat → Prop} {h g : AH} (hD : va_D A (am_w Y E h)) : va_D A (am_w Y E g) := by
  have key : ∀ (k : Nat) (q : Nat × va_E), (am_w Y E g)[k]? = some q → ∃ q', (am_w Y E h)[k]? = some q' ∧ q'.1 = q.1 := by
    intro k q hk
    unfold am_w at hk ⊢
    rw [List.getElem?_mapIdx] at hk ⊢
    cases hy : Y[k]? with
    | none => rw [hy] at hk; cases hk
    | some y => rw [hy] at hk; cases hk; exact ⟨_, rfl, rfl⟩
  refine ⟨fun i j p q hp hq he => ?_, fun k q hq => ?_⟩
  · obtain ⟨p', h1, h2⟩ := key i p hp
    obtain ⟨q', h3, h4⟩ := key j q hq
    exact hD.1 i j p' q' h1 h3 (by rw [h2, h4, he])
  · obtain ⟨q', h1, h2⟩ := key k q hq
    rw [← h2]; exact hD.2 k q' h1
theorem am_D_self {Y : List AL} {E : AE} {A : Nat → Prop} {h : AH} {sz : Nat} (hD : va_D A (am_w Y E h)) : va_D (am_A Y E sz) (am_w Y E h) := by
  refine ⟨hD.1, fun k q hq => ?_⟩
  unfold am_w at hq
  rw [List.getElem?_mapIdx] at hq
  cases hy : Y[k]? with
  | none => rw [hy] at hq; cases hq
  | some y =>
    rw [hy] at hq
    cases hq
    exact .inl ⟨k, (List.getElem?_eq_some_iff.mp hy).1, rfl⟩
/-! locals -/
def am_a (E : AE) : Nat → List (Option AV) → List (Nat × Value)
  | _, [] => []
  | k, none :: t => am_a E (k + 1) t
  | k, some v :: t => (k, am_v E v) :: am_a E (k + 1) t
theorem am_a_mem (E : AE) : ∀ (k : Nat) (L : List (Option AV)) (i : Nat) (x : Value), (i, x) ∈ am_a E k L ↔ ∃ v, L[i - k]? = some (some v) ∧ k ≤ i ∧ x = am_v E v
  | k, [], i, x => by simp [am_a]
  | k, none :: t, i, x => by
    simp only [am_a]
    rw [am_a_mem E (k + 1) t i x]
    constructor
    · rintro ⟨v, h1, h2, h3⟩
      exact ⟨v, by rw [show i - k = (i - (k + 1)) + 1 by omega]; simpa using h1, by omega, h3⟩
    · rintro ⟨v, h1, h2, h3⟩
      have : i ≠ k := by rintro rfl; simp at h1
      exact ⟨v, by rw [show i - k = (i - (k + 1)) + 1 by omega] at h1; simpa using h1, by omega, h3⟩
  | k, some w :: t, i, x => by
    simp only [am_a, List.mem_cons, Prod.mk.injEq]
    rw [am_a_mem E (k + 1) t i x]
    constructor
    · rintro (⟨h1, h2⟩ | ⟨v, h1, h2, h3⟩)
      · subst h1; exact ⟨w, by simp, by omega, h2⟩
      · exact ⟨v, by rw [show i - k = (i - (k + 1)) + 1 by omega]; simpa using h1, by omega, h3⟩
    · rintro ⟨v, h1, h2, h3⟩
      by_cases hk : i = k
      · subst hk; left; simp at h1; subst h1; exact ⟨rfl, h3⟩
      · right; exact ⟨v, by rw [show i - k = (i - (k + 1)) + 1 by omega] at h1; simpa using h1, by omega, h3⟩
theorem am_l_at {E : AE} {ls : Array Slot} {nL : Nat} {L : List (Option AV)} (h : lv_has ls nL (am_a E 0 L)) {i : Nat} {v : AV} (hi : L[i]? = some (some v)) : ls[i]? = some (.val (am_v E v)) :=
  h.2.2 (i, am_v E v) ((am_a_mem E 0 L i _).mpr ⟨v, by simpa using hi, by omega, rfl⟩)
def am_isL : Option AV → Bool
  | some (.inr (.inl _)) => true
  | _ => false
/-- store: one slot -/
def am_st (v : AV) : Nat → List (Option AV) → (List (Option AV) → Prop) → Prop
  | _, [], _ => False
  | 0, _ :: t, k => k (some v :: t)
  | 1, x :: t, k => match x with
    | some (.inr (.inl _)) => am_st v 0 t (fun t' => k (none :: t'))
    | some (.inl a) => am_st v 0 t (fun t' => k (some (.inl a) :: t'))
    | some (.inr (.inr a)) => am_st v 0 t (fun t' => k (some (.inr (.inr a)) :: t'))
    | none => am_st v 0 t (fun t' => k (none :: t'))
  | i + 2, x :: t, k => am_st v (i + 1) t (fun t' => k (x :: t'))
/-- store: a long, two slots -/
def am_st2 (v : AV) : Nat → List (Option AV) → (List (Option AV) → Prop) → Prop
  | 0, _ :: _ :: t, k => k (some v :: none :: t)
  | 1, x :: t, k => match x with
    | some (.inr (.inl _)) => am_st2 v 0 t (fun t' => k (none :: t'))
    | some (.inl a) => am_st2 v 0 t (fun t' => k (some (.inl a) :: t'))
    | some (.inr (.inr a)) => am_st2 v 0 t (fun t' => k (some (.inr (.inr a)) :: t'))
    | none => am_st2 v 0 t (fun t' => k (none :: t'))
  | i + 2, x :: t, k => am_st2 v (i + 1) t (fun t' => k (x :: t'))
  | _, _, _ => False
theorem am_st_ok (v : AV) : ∀ (i : Nat) (L : List (Option AV)) (k : List (Option AV) → Prop), am_st v i L k → ∃ L', k L' ∧ i < L.length ∧ L'.length = L.length ∧ ∀ (j : Nat) (w : AV), L'[j]? = some (some w) → (j = i ∧ w = v) ∨ (j ≠ i ∧ L[j]? = some (some w) ∧ ¬ (j + 1 = i ∧ am_isL (some w) = true))
  | i, [], k, h => by cases i with
    | zero => exact h.elim
    | succ i => cases i with
      | zero => exact h.elim
      | succ i => exact h.elim
  | 0, x :: t, k, h => ⟨_, h, by simp, by simp, fun j w hj => by
      cases j with
      | zero => simp at hj; exact .inl ⟨rfl, hj.symm⟩
      | succ j => right; exact ⟨by omega, by simpa using hj, by omega⟩⟩
  | 1, x :: t, k, h => by
    have key : ∀ (y : Option AV), (∀ w, y = some w → x = some w ∧ am_isL (some w) = false) → am_st v 0 t (fun t' => k (y :: t')) → ∃ L', k L' ∧ 1 < (x :: t).length ∧ L'.length = (x :: t).length ∧ ∀ (j : Nat) (w : AV), L'[j]? = some (some w) → (j = 1 ∧ w = v) ∨ (j ≠ 1 ∧ (x :: t)[j]? = some (some w) ∧ ¬ (j + 1 = 1 ∧ am_isL (some w) = true)) := by
      intro y hy hk
      obtain ⟨L', h1, h2, h3, h4⟩ := am_st_ok v 0 t _ hk
      refine ⟨y :: L', h1, by simp; omega, by simp [h3], fun j w hj => ?_⟩
      cases j with
      | zero =>
        right
        simp at hj
        obtain ⟨e1, e2⟩ := hy w hj
        exact ⟨by omega, by simp [e1], by simp [e2]⟩
      | succ j =>
        rcases h4 j w (by simpa using hj) with ⟨e1, e2⟩ | ⟨e1, e2, -⟩
        · left; exact ⟨by omega, e2⟩
        · right; exact ⟨by omega, by simpa using e2, by omega⟩
    match x, h with
    | some (.inr (.inl a)), h => exact key none (by simp) h
    | some (.inl a), h => exact key (some (.inl a)) (by rintro w hw; cases hw; exact ⟨rfl, rfl⟩) h
    | some (.inr (.inr a)), h => exact key (some (.inr (.inr a))) (by rintro w hw; cases hw; exact ⟨rfl, rfl⟩) h
    | none, h => exact key none (by simp) h
  | i + 2, x :: t, k, h => by
    obtain ⟨L', h1, h2, h3, h4⟩ := am_st_ok v (i + 1) t _ h
    refine ⟨x :: L', h1, by simp; omega, by simp [h3], fun j w hj => ?_⟩
    cases j with
    | zero => right; exact ⟨by omega, by simpa using hj, by omega⟩
    | succ j =>
      rcases h4 j w (by simpa using hj) with ⟨e1, e2⟩ | ⟨e1, e2, e3⟩
      · left; exact ⟨by omega, e2⟩
      · right; exact ⟨by omega, by simpa using e2, by intro g; exact e3 ⟨by omega, g.2⟩⟩
theorem am_st2_ok (v : AV) : ∀ (i : Nat) (L : List (Option AV)) (k : List (Option AV) → Prop), am_st2 v i L k → ∃ L', k L' ∧ i + 1 < L.length ∧ L'.length = L.length ∧ ∀ (j : Nat) (w : AV), L'[j]? = some (some w) → (j = i ∧ w = v) ∨ (j ≠ i ∧ j ≠ i + 1 ∧ L[j]? = some (some w) ∧ ¬ (j + 1 = i ∧ am_isL (some w) = true))
  | i, [], k, h => by cases i with
    | zero => exact h.elim
    | succ i => cases i with
      | zero => exact h.elim
      | succ i => exact h.elim
  | 0, [x], k, h => h.elim
  | 0, x :: y :: t, k, h => ⟨_, h, by simp, by simp, fun j w hj => by
      match j, hj with
      | 0, hj => simp at hj; exact .inl ⟨rfl, hj.symm⟩
      | 1, hj => simp at hj
      | j + 2, hj => right; exact ⟨by omega, by omega, by simpa using hj, by omega⟩⟩
  | 1, x :: t, k, h => by
    have key : ∀ (y : Option AV), (∀ w, y = some w → x = some w ∧ am_isL (some w) = false) → am_st2 v 0 t (fun t' => k (y :: t')) → ∃ L', k L' ∧ 1 + 1 < (x :: t).length ∧ L'.length = (x :: t).length ∧ ∀ (j : Nat) (w : AV), L'[j]? = some (some w) → (j = 1 ∧ w = v) ∨ (j ≠ 1 ∧ j ≠ 1 + 1 ∧ (x :: t)[j]? = some (some w) ∧ ¬ (j + 1 = 1 ∧ am_isL (some w) = true)) := by
      intro y hy hk
      obtain ⟨L', h1, h2, h3, h4⟩ := am_st2_ok v 0 t _ hk
      refine ⟨y :: L', h1, by simp; omega, by simp [h3], fun j w hj => ?_⟩
      cases j with
      | zero =>
        right
        simp at hj
        obtain ⟨e1, e2⟩ := hy w hj
        exact ⟨by omega, by omega, by simp [e1], by simp [e2]⟩
      | succ j =>
        rcases h4 j w (by simpa using hj) with ⟨e1, e2⟩ | ⟨e1, e2, e3, -⟩
        · left; exact ⟨by omega, e2⟩
        · right; exact ⟨by omega, by omega, by simpa using e3, by omega⟩
    match x, h with
    | some (.inr (.inl a)), h => exact key none (by simp) h
    | some (.inl a), h => exact key (some (.inl a)) (by rintro w hw; cases hw; exact ⟨rfl, rfl⟩) h
    | some (.inr (.inr a)), h => exact key (some (.inr (.inr a))) (by rintro w hw; cases hw; exact ⟨rfl, rfl⟩) h
    | none, h => exact key none (by simp) h
  | i + 2, x :: t, k, h => by
    obtain ⟨L', h1, h2, h3, h4⟩ := am_st2_ok v (i + 1) t _ h
    refine ⟨x :: L', h1, by simp; omega, by simp [h3], fun j w hj => ?_⟩
    cases j with
    | zero => right; exact ⟨by omega, by omega, by simpa using hj, by omega⟩
    | succ j =>
      rcases h4 j w (by simpa using hj) with ⟨e1, e2⟩ | ⟨e1, e2, e3, e4⟩
      · left; exact ⟨by omega, e2⟩
      · right; exact ⟨by omega, by omega, by simpa using e3, by intro g; exact e4 ⟨by omega, g.2⟩⟩
theorem am_cat (E : AE) (w : AV) : ((am_v E w).category == 2) = am_isL (some w) := by
  match w with
  | .inl a => rfl
  | .inr (.inl a) => rfl
  | .inr (.inr a) => rfl
theorem am_st_has {E : AE} {ls' : Array Slot} {nL : Nat} {L L' : List (Option AV)} {i : Nat} {v : AV} (h : lv_has ls' nL ((i, am_v E v) :: (am_a E 0 L).filter (fun q => !(q.1 == i) && !(q.1 + 1 == i && q.2.category == 2))))
    (hL : ∀ (j : Nat) (w : AV), L'[j]? = some (some w) → (j = i ∧ w = v) ∨ (j ≠ i ∧ L[j]? = some (some w) ∧ ¬ (j + 1 = i ∧ am_isL (some w) = true))) : lv_has ls' nL (am_a E 0 L') := by
  refine ⟨h.1, h.2.1, fun q hq => h.2.2 q ?_⟩
  obtain ⟨j, x⟩ := q
  obtain ⟨w, h1, -, h3⟩ := (am_a_mem E 0 L' j x).mp hq
  rcases hL j w (by simpa using h1) with ⟨e1, e2⟩ | ⟨e1, e2, e3⟩
  · subst e1; subst e2; subst h3; exact List.mem_cons_self
  · apply List.mem_cons_of_mem
    rw [List.mem_filter]
    refine ⟨(am_a_mem E 0 L j x).mpr ⟨w, by simpa using e2, by omega, h3⟩, ?_⟩
    subst h3
    dsimp only
    rw [am_cat]
    simp only [Bool.and_eq_true, Bool.not_eq_true', beq_eq_false_iff_ne, Bool.and_eq_false_iff]
    refine ⟨e1, ?_⟩
    by_cases g : j + 1 = i
    · right
      cases hb : am_isL (some w) with
      | false => rfl
      | true => exact absurd ⟨g, hb⟩ e3
    · left; exact g
theorem am_st2_has {E : AE} {ls' : Array Slot} {nL : Nat} {L L' : List (Option AV)} {i : Nat} {v : AV} (h : lv_has ls' nL ((i, am_v E v) :: (am_a E 0 L).filter (fun q => !(q.1 == i) && (!(q.1 == i + 1) && !(q.1 + 1 == i && q.2.category == 2)))))
    (hL : ∀ (j : Nat) (w : AV), L'[j]? = some (some w) → (j = i ∧ w = v) ∨ (j ≠ i ∧ j ≠ i + 1 ∧ L[j]? = some (some w) ∧ ¬ (j + 1 = i ∧ am_isL (some w) = true))) : lv_has ls' nL (am_a E 0 L') := by
  refine ⟨h.1, h.2.1, fun q hq => h.2.2 q ?_⟩
  obtain ⟨j, x⟩ := q
  obtain ⟨w, h1, -, h3⟩ := (am_a_mem E 0 L' j x).mp hq
  rcases hL j w (by simpa using h1) with ⟨e1, e2⟩ | ⟨e1, e0, e2, e3⟩
  · subst e1; subst e2; subst h3; exact List.mem_cons_self
  · apply List.mem_cons_of_mem
    rw [List.mem_filter]
    refine ⟨(am_a_mem E 0 L j x).mpr ⟨w, by simpa using e2, by omega, h3⟩, ?_⟩
    subst h3
    dsimp only
    rw [am_cat]
    simp only [Bool.and_eq_true, Bool.not_eq_true', beq_eq_false_iff_ne, Bool.and_eq_false_iff]
    refine ⟨e1, e0, ?_⟩
    by_cases g : j + 1 = i
    · right
      cases hb : am_isL (some w) with
      | false => rfl
      | true => exact absurd ⟨g, hb⟩ e3
    · left; exact g
