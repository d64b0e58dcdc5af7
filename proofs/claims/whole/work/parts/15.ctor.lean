/-! THE MACHINE THAT MAKES CELLS (constructors): the layout grows; a field that names a cell may still be null -/
abbrev NL : Type := (Nat × List (Option (Option Nat))) ⊕ (Nat × Nat)
def nm_f (E : AE) (h : Nat → Int) : Nat → List (Option (Option Nat)) → List Value
  | _, [] => []
  | k, none :: fs => .int (Int32.ofInt (h k)) :: nm_f E h (k + 1) fs
  | k, some none :: fs => .null :: nm_f E h (k + 1) fs
  | k, some (some r) :: fs => .ref (E.2.2 r) :: nm_f E h (k + 1) fs
def nm_c (E : AE) (h : Nat → Int) : NL → va_E
  | .inl o => .inr (o.1, nm_f E h 0 o.2)
  | .inr (0, n) => .inl (E.2.1.1, n, .inl (fun j => Int32.ofInt (h j)))
  | .inr (1, n) => .inl (E.2.1.2.1, n, .inr (.inl (fun j => Int64.ofInt (h j))))
  | .inr (_, n) => .inl (E.2.1.2.2, n, .inl (fun j => Int32.ofInt (h j)))
def nm_w (Y : List NL) (E : AE) (h : AH) : va_W := Y.mapIdx (fun c q => (E.2.2 c, nm_c E (h c) q))
def nm_up : AL → NL
  | .inl o => .inl (o.1, o.2.map (fun f => f.map some))
  | .inr q => .inr q
theorem nm_f_up (E : AE) (h : Nat → Int) : ∀ (k : Nat) (fs : List (Option Nat)), nm_f E h k (fs.map (fun f => f.map some)) = am_f E h k fs
  | _, [] => rfl
  | k, none :: fs => by simp only [List.map_cons, Option.map_none, nm_f, am_f]; rw [nm_f_up E h (k + 1) fs]
  | k, some r :: fs => by simp only [List.map_cons, Option.map_some, nm_f, am_f]; rw [nm_f_up E h (k + 1) fs]
theorem nm_c_up (E : AE) (h : Nat → Int) : ∀ q : AL, nm_c E h (nm_up q) = am_c E h q
  | .inl o => by show (Sum.inr (o.1, nm_f E h 0 (o.2.map (fun f => f.map some))) : va_E) = .inr (o.1, am_f E h 0 o.2); rw [nm_f_up]
  | .inr (0, n) => rfl
  | .inr (1, n) => rfl
  | .inr (n + 2, m) => rfl
theorem nm_w_up (Y : List AL) (E : AE) (h : AH) : nm_w (Y.map nm_up) E h = am_w Y E h := by
  apply List.ext_getElem?
  intro k
  unfold nm_w am_w
  rw [List.getElem?_mapIdx, List.getElem?_mapIdx, List.getElem?_map]
  cases Y[k]? with
  | none => rfl
  | some q => simp only [Option.map_some]; rw [nm_c_up]
theorem nm_w_at {Y : List NL} {E : AE} {h : AH} {c : Nat} {q : NL} (hc : Y[c]? = some q) : (nm_w Y E h)[c]? = some (E.2.2 c, nm_c E (h c) q) := by
  unfold nm_w
  rw [List.getElem?_mapIdx, hc]
  rfl
theorem nm_f_len (E : AE) (h : Nat → Int) : ∀ (k : Nat) (fs : List (Option (Option Nat))), (nm_f E h k fs).length = fs.length
  | _, [] => rfl
  | k, none :: fs => by simp [nm_f, nm_f_len E h (k + 1) fs]
  | k, some none :: fs => by simp [nm_f, nm_f_len E h (k + 1) fs]
  | k, some (some r) :: fs => by simp [nm_f, nm_f_len E h (k + 1) fs]
theorem nm_f_ref (E : AE) (h : Nat → Int) : ∀ (k : Nat) (fs : List (Option (Option Nat))) (i r : Nat), fs[i]? = some (some (some r)) → (nm_f E h k fs)[i]? = some (.ref (E.2.2 r))
  | _, [], i, r, hi => by simp at hi
  | k, none :: fs, 0, r, hi => by simp at hi
  | k, some none :: fs, 0, r, hi => by simp at hi
  | k, some (some r') :: fs, 0, r, hi => by simp at hi; subst hi; simp [nm_f]
  | k, none :: fs, i + 1, r, hi => by simp only [nm_f, List.getElem?_cons_succ]; exact nm_f_ref E h (k + 1) fs i r (by simpa using hi)
  | k, some none :: fs, i + 1, r, hi => by simp only [nm_f, List.getElem?_cons_succ]; exact nm_f_ref E h (k + 1) fs i r (by simpa using hi)
  | k, some (some r') :: fs, i + 1, r, hi => by simp only [nm_f, List.getElem?_cons_succ]; exact nm_f_ref E h (k + 1) fs i r (by simpa using hi)
theorem nm_f_same (E E' : AE) {h g : Nat → Int} : ∀ (k : Nat) (fs : List (Option (Option Nat))), (∀ (i : Nat), fs[i]? = some none → h (k + i) = g (k + i)) → (∀ (i r : Nat), fs[i]? = some (some (some r)) → E.2.2 r = E'.2.2 r) → nm_f E h k fs = nm_f E' g k fs
  | _, [], _, _ => rfl
  | k, none :: fs, hh, hr => by
    have h0 := hh 0 rfl
    have := nm_f_same E E' (h := h) (g := g) (k + 1) fs (fun i hi => by have := hh (i + 1) (by simpa using hi); rw [show k + 1 + i = k + (i + 1) by omega]; exact this) (fun i r hi => hr (i + 1) r (by simpa using hi))
    simp only [nm_f]
    rw [this, show h k = g k from h0]
  | k, some none :: fs, hh, hr => by
    have := nm_f_same E E' (h := h) (g := g) (k + 1) fs (fun i hi => by have := hh (i + 1) (by simpa using hi); rw [show k + 1 + i = k + (i + 1) by omega]; exact this) (fun i r hi => hr (i + 1) r (by simpa using hi))
    simp only [nm_f]
    rw [this]
  | k, some (some r) :: fs, hh, hr => by
    have := nm_f_same E E' (h := h) (g := g) (k + 1) fs (fun i hi => by have := hh (i + 1) (by simpa using hi); rw [show k + 1 + i = k + (i + 1) by omega]; exact this) (fun i r hi => hr (i + 1) r (by simpa using hi))
    simp only [nm_f]
    rw [this, hr 0 r rfl]
theorem nm_f_set (E : AE) (h : Nat → Int) (v : Int) : ∀ (k : Nat) (fs : List (Option (Option Nat))) (i : Nat), fs[i]? = some none → nm_f E (fun j => if j = k + i then v else h j) k fs = (nm_f E h k fs).set i (.int (Int32.ofInt v))
  | _, [], i, hi => by simp at hi
  | k, some none :: fs, 0, hi => by simp at hi
  | k, some (some r) :: fs, 0, hi => by simp at hi
  | k, none :: fs, 0, hi => by
    simp only [nm_f, List.set_cons_zero]
    rw [nm_f_same E E (h := fun j => if j = k + 0 then v else h j) (g := h) (k + 1) fs (fun i _ => by rw [if_neg (by omega)]) (fun _ _ _ => rfl)]
    simp
  | k, none :: fs, i + 1, hi => by
    have := nm_f_set E h v (k + 1) fs i (by simpa using hi)
    simp only [nm_f, List.set_cons_succ]
    rw [← this, if_neg (by omega)]
    congr 2
    funext j
    rw [show k + 1 + i = k + (i + 1) by omega]
  | k, some none :: fs, i + 1, hi => by
    have := nm_f_set E h v (k + 1) fs i (by simpa using hi)
    simp only [nm_f, List.set_cons_succ]
    rw [← this]
    congr 2
    funext j
    rw [show k + 1 + i = k + (i + 1) by omega]
  | k, some (some r) :: fs, i + 1, hi => by
    have := nm_f_set E h v (k + 1) fs i (by simpa using hi)
    simp only [nm_f, List.set_cons_succ]
    rw [← this]
    congr 2
    funext j
    rw [show k + 1 + i = k + (i + 1) by omega]
theorem nm_f_setr (E : AE) (h : Nat → Int) (r : Nat) : ∀ (k : Nat) (fs : List (Option (Option Nat))) (i : Nat), (∃ x, fs[i]? = some (some x)) → nm_f E h k (fs.set i (some (some r))) = (nm_f E h k fs).set i (.ref (E.2.2 r))
  | _, [], i, hi => by obtain ⟨x, hx⟩ := hi; simp at hx
  | k, none :: fs, 0, hi => by obtain ⟨x, hx⟩ := hi; simp at hx
  | k, some none :: fs, 0, hi => rfl
  | k, some (some r') :: fs, 0, hi => rfl
  | k, none :: fs, i + 1, hi => by
    have := nm_f_setr E h r (k + 1) fs i (by simpa using hi)
    simp only [nm_f, List.set_cons_succ]
    rw [this]
  | k, some none :: fs, i + 1, hi => by
    have := nm_f_setr E h r (k + 1) fs i (by simpa using hi)
    simp only [nm_f, List.set_cons_succ]
    rw [this]
  | k, some (some r') :: fs, i + 1, hi => by
    have := nm_f_setr E h r (k + 1) fs i (by simpa using hi)
    simp only [nm_f, List.set_cons_succ]
    rw [this]
/-- a cell's content changes -/
theorem nm_w_set {Y : List NL} {E : AE} {h g : AH} {c : Nat} {q q' : NL} {x : va_E} (hc : Y[c]? = some q) (hx : nm_c E (g c) q' = x) (hg : ∀ k, k ≠ c → g k = h k) : nm_w (Y.set c q') E g = (nm_w Y E h).set c (E.2.2 c, x) := by
  apply List.ext_getElem?
  intro k
  have hl : c < Y.length := (List.getElem?_eq_some_iff.mp hc).1
  by_cases hk : k = c
  · subst hk
    rw [List.getElem?_set_self (by simp [nm_w, hl]), ← hx]
    exact nm_w_at (List.getElem?_set_self hl)
  · rw [List.getElem?_set_ne (Ne.symm hk)]
    unfold nm_w
    rw [List.getElem?_mapIdx, List.getElem?_mapIdx, List.getElem?_set_ne (Ne.symm hk), hg k hk]
/-- all cells that are named are there -/
def nm_ok (Y : List NL) : Prop := ∀ (c : Nat) (o : Nat × List (Option (Option Nat))), Y[c]? = some (.inl o) → ∀ (i r : Nat), o.2[i]? = some (some (some r)) → r < Y.length
theorem nm_w_same {Y : List NL} {E E' : AE} {h : AH} (hok : nm_ok Y) (h1 : E'.1 = E.1) (h2 : E'.2.1 = E.2.1) (h3 : ∀ k, k < Y.length → E'.2.2 k = E.2.2 k) : nm_w Y E' h = nm_w Y E h := by
  apply List.ext_getElem?
  intro k
  unfold nm_w
  rw [List.getElem?_mapIdx, List.getElem?_mapIdx]
  cases hk : Y[k]? with
  | none => rfl
  | some q =>
    have hl : k < Y.length := (List.getElem?_eq_some_iff.mp hk).1
    simp only [Option.map_some]
    rw [h3 k hl]
    congr 2
    match q, hk with
    | .inl o, hk =>
      show (Sum.inr (o.1, nm_f E' (h k) 0 o.2) : va_E) = .inr (o.1, nm_f E (h k) 0 o.2)
      rw [nm_f_same E' E 0 o.2 (fun _ _ => rfl) (fun i r hi => h3 r (hok k o hk i r hi))]
    | .inr (0, n), _ => show (Sum.inl (E'.2.1.1, _) : va_E) = _; rw [h2]; rfl
    | .inr (1, n), _ => show (Sum.inl (E'.2.1.2.1, _) : va_E) = _; rw [h2]; rfl
    | .inr (n + 2, m), _ => show (Sum.inl (E'.2.1.2.2, _) : va_E) = _; rw [h2]; rfl
def nm_ad (E : AE) (ad : Nat → Nat) : AE := (E.1, E.2.1, ad)
/-- a new cell -/
theorem nm_w_push {Y : List NL} {E : AE} {h : AH} {q : NL} {a : Nat} (hok : nm_ok (Y ++ [q])) (hoY : nm_ok Y) : nm_w (Y ++ [q]) (nm_ad E (fun k => if k = Y.length then a else E.2.2 k)) h = nm_w Y E h ++ [(a, nm_c (nm_ad E (fun k => if k = Y.length then a else E.2.2 k)) (h Y.length) q)] := by
  have e1 : nm_w (Y ++ [q]) (nm_ad E (fun k => if k = Y.length then a else E.2.2 k)) h = nm_w Y (nm_ad E (fun k => if k = Y.length then a else E.2.2 k)) h ++ [(a, nm_c (nm_ad E (fun k => if k = Y.length then a else E.2.2 k)) (h Y.length) q)] := by
    unfold nm_w
    rw [List.mapIdx_append]
    simp [nm_ad]
  rw [e1, nm_w_same hoY (E := E) (E' := nm_ad E (fun k => if k = Y.length then a else E.2.2 k)) rfl rfl (fun k hk => by show (if k = Y.length then a else E.2.2 k) = _; rw [if_neg (by omega)])]
