/-! the machine that makes cells: its steps -/
abbrev NJ : Type := List NL → Nat → List (Option AV) → List AV → AH → Prop
abbrev NR : Type := List NL → AH → Prop
abbrev NG : Type := Nat → List NL → List AV → AH → NR → Prop
abbrev ND : Type := NG → NJ → NR → NJ
def nm_s1 : NL → Nat
  | .inl o => o.2.length
  | .inr q => q.2
def nm_sz : List NL → Nat
  | [] => 0
  | q :: Y => nm_s1 q + nm_sz Y
theorem nm_sz_app (Y : List NL) (q : NL) : nm_sz (Y ++ [q]) = nm_sz Y + nm_s1 q := by
  induction Y with
  | nil => simp [nm_sz]
  | cons a Y ih => simp only [List.cons_append, nm_sz, ih]; omega
theorem nm_sz_set (Y : List NL) (c : Nat) (q q' : NL) (hc : Y[c]? = some q) (h : nm_s1 q' = nm_s1 q) : nm_sz (Y.set c q') = nm_sz Y := by
  induction Y generalizing c with
  | nil => simp at hc
  | cons a Y ih =>
    cases c with
    | zero => simp at hc; subst hc; simp [nm_sz, h]
    | succ c => simp only [List.set_cons_succ, nm_sz]; rw [ih c (by simpa using hc)]
/-- all references are to cells that are there -/
def nm_vr (n : Nat) : List AV → Bool
  | [] => true
  | .inr (.inr c) :: S => (Nat.blt c n || Nat.ble 1000 c) && nm_vr n S
  | .inl _ :: S => nm_vr n S
  | .inr (.inl _) :: S => nm_vr n S
def nm_vl (n : Nat) : List (Option AV) → Bool
  | [] => true
  | some (.inr (.inr c)) :: S => (Nat.blt c n || Nat.ble 1000 c) && nm_vl n S
  | some (.inl _) :: S => nm_vl n S
  | some (.inr (.inl _)) :: S => nm_vl n S
  | none :: S => nm_vl n S
def nm_fr (n : Nat) : List (Option (Option Nat)) → Bool
  | [] => true
  | some (some c) :: S => Nat.blt c n && nm_fr n S
  | some none :: S => nm_fr n S
  | none :: S => nm_fr n S
def nm_okb (n : Nat) : List NL → Bool
  | [] => true
  | .inl o :: Y => nm_fr n o.2 && nm_okb n Y
  | .inr _ :: Y => nm_okb n Y
theorem nm_fr_ok {n : Nat} : ∀ {fs : List (Option (Option Nat))}, nm_fr n fs = true → ∀ (i r : Nat), fs[i]? = some (some (some r)) → r < n
  | [], _, i, r, h => by simp at h
  | some (some c) :: S, hb, i, r, h => by
    simp only [nm_fr, Bool.and_eq_true] at hb
    cases i with
    | zero => simp at h; subst h; exact Nat.le_of_ble_eq_true hb.1
    | succ i => exact nm_fr_ok hb.2 i r (by simpa using h)
  | some none :: S, hb, i, r, h => by
    cases i with
    | zero => simp at h
    | succ i => exact nm_fr_ok (fs := S) hb i r (by simpa using h)
  | none :: S, hb, i, r, h => by
    cases i with
    | zero => simp at h
    | succ i => exact nm_fr_ok (fs := S) hb i r (by simpa using h)
theorem nm_okb_ok {n : Nat} : ∀ {Y : List NL}, nm_okb n Y = true → ∀ (c : Nat) (o : Nat × List (Option (Option Nat))), Y[c]? = some (.inl o) → ∀ (i r : Nat), o.2[i]? = some (some (some r)) → r < n
  | [], _, c, o, h => by simp at h
  | .inl o' :: Y, hb, c, o, h => by
    simp only [nm_okb, Bool.and_eq_true] at hb
    cases c with
    | zero => simp at h; subst h; exact nm_fr_ok hb.1
    | succ c => exact nm_okb_ok hb.2 c o (by simpa using h)
  | .inr q :: Y, hb, c, o, h => by
    cases c with
    | zero => simp at h
    | succ c => exact nm_okb_ok (Y := Y) hb c o (by simpa using h)
theorem nm_vr_ok {n : Nat} {E E' : AE} (he : ∀ k, k < n ∨ 1000 ≤ k → E'.2.2 k = E.2.2 k) : ∀ {S : List AV}, nm_vr n S = true → S.map (am_v E') = S.map (am_v E)
  | [], _ => rfl
  | .inr (.inr c) :: S, hb => by
    simp only [nm_vr, Bool.and_eq_true, Bool.or_eq_true] at hb
    simp only [List.map_cons, am_v]
    rw [he c (hb.1.elim (fun z => .inl (Nat.le_of_ble_eq_true z)) (fun z => .inr (Nat.le_of_ble_eq_true z))), nm_vr_ok he hb.2]
  | .inl a :: S, hb => by simp only [List.map_cons]; rw [nm_vr_ok he (S := S) hb]; rfl
  | .inr (.inl a) :: S, hb => by simp only [List.map_cons]; rw [nm_vr_ok he (S := S) hb]; rfl
theorem nm_vl_ok {n : Nat} {E E' : AE} (he : ∀ k, k < n ∨ 1000 ≤ k → E'.2.2 k = E.2.2 k) : ∀ {L : List (Option AV)} (k : Nat), nm_vl n L = true → am_a E' k L = am_a E k L
  | [], _, _ => rfl
  | some (.inr (.inr c)) :: S, k, hb => by
    simp only [nm_vl, Bool.and_eq_true, Bool.or_eq_true] at hb
    simp only [am_a, am_v]
    rw [he c (hb.1.elim (fun z => .inl (Nat.le_of_ble_eq_true z)) (fun z => .inr (Nat.le_of_ble_eq_true z))), nm_vl_ok he (k + 1) hb.2]
  | some (.inl a) :: S, k, hb => by simp only [am_a]; rw [nm_vl_ok he (L := S) (k + 1) hb]; rfl
  | some (.inr (.inl a)) :: S, k, hb => by simp only [am_a]; rw [nm_vl_ok he (L := S) (k + 1) hb]; rfl
  | none :: S, k, hb => by simp only [am_a]; exact nm_vl_ok he (L := S) (k + 1) hb
def nm_J (cl : List vw_C) (E0 : AE) (n0 z0 : Nat) (A : Nat → Prop) (p : Program) (l : Launch) (e : Env) (R : Room) (s : State) (m : MethodId) (args : Array Value) (below : List Frame) (meth : Method) (c : Code) (nL : Nat) (Q : State → Prop) : NJ :=
  fun Y pc L S h => ∀ (ad : Nat → Nat), (∀ k, k < n0 ∨ 1000 ≤ k → ad k = E0.2.2 k) → ∀ (H : Heap) (locs : List Loc) (ls : Array Slot), va_P E0.1 cl (nm_w Y (nm_ad E0 ad) h) H → va_D A (nm_w Y (nm_ad E0 ad) h) → va_S A s.heap H locs → lv_has ls nL (am_a (nm_ad E0 ad) 0 L) →
    W p l e R s m args below meth c H locs (Y.length - n0) (nm_sz Y - z0) Q (F0 m pc ls (S.map (am_v (nm_ad E0 ad))))
/-- two constructors are private: how they are linked -/
def nm_N (U : State) : Prop := va_Nw (.methodLinkNest "PointDesk" 11 ⟨"PointDesk$Points", "<init>", "()V"⟩ "PointDesk") U ∧ va_Nw (.methodLinkNest "PointDesk$HullSides" 9 ⟨"PointDesk$WideProduct", "<init>", "()V"⟩ "PointDesk") U
def nm_C (cl : List vw_C) (E0 : AE) (A : Nat → Prop) (p : Program) (s : State) (m : MethodId) (args : Array Value) (meth : Method) (c : Code) (nL : Nat) (cc : ByteArray) (own : String) (Ts : List Cond) : Prop :=
  p.tables.exec = Jvm.exec ∧ c.code = cc ∧ c.maxLocals = nL ∧ s.vm.findClass own = some m.cls ∧ (∀ w ∈ Ts, w.before args s = true) ∧ va_K E0.1 cl (am_tys E0) s ∧ (∀ q, s.heap.size ≤ q → A q) ∧ meth.locks = false ∧ nm_N s
def nm_sd (G : NG) (J : NJ) (R : NR) (f : ND) (pc : Nat) : Prop := ∀ Y L S h, f G J R Y pc L S h → J Y pc L S h
def nm_ic (a : Int) (n : Nat) : ND := fun _ J _ Y pc L S h => J Y (pc + n) L (.inl a :: S) h
def nm_ald (i n : Nat) : ND := fun _ J _ Y pc L S h => match L[i]? with
  | some (some (.inr (.inr a))) => J Y (pc + n) L (.inr (.inr a) :: S) h
  | _ => False
def nm_ast (i n : Nat) : ND := fun _ J _ Y pc L S h => match S with
  | .inr (.inr a) :: S => am_st (.inr (.inr a)) i L (fun L' => J Y (pc + n) L' S h)
  | _ => False
def nm_dup : ND := fun _ J _ Y pc L S h => match S with
  | .inr (.inr a) :: S => J Y (pc + 1) L (.inr (.inr a) :: .inr (.inr a) :: S) h
  | _ => False
/-- is there room, are all references to cells that are there -/
def nm_chk (n0 z0 mc ms : Nat) (Y : List NL) (q : NL) (L : List (Option AV)) (S : List AV) : Bool :=
  (nm_okb Y.length Y && Nat.ble Y.length 900) && nm_okb (Y.length + 1) [q] && nm_vl Y.length L && nm_vr Y.length S && Nat.ble n0 Y.length && Nat.ble z0 (nm_sz Y) && Nat.ble (Y.length + 1 - n0) mc && Nat.ble (nm_sz Y + nm_s1 q - z0) ms
def nm_app : List NL → NL → (List NL → Prop) → Prop
  | [], x, k => k [x]
  | y :: t, x, k => nm_app t x (fun t' => k (y :: t'))
theorem nm_app_ok : ∀ (Y : List NL) (x : NL) (k : List NL → Prop), nm_app Y x k → k (Y ++ [x])
  | [], x, k, h => h
  | y :: t, x, k, h => nm_app_ok t x (fun t' => k (y :: t')) h
def nm_setk {α : Type} : List α → Nat → α → (List α → Prop) → Prop
  | [], _, _, _ => False
  | _ :: t, 0, x, k => k (x :: t)
  | y :: t, c + 1, x, k => nm_setk t c x (fun t' => k (y :: t'))
theorem nm_setk_ok {α : Type} : ∀ (Y : List α) (c : Nat) (x : α) (k : List α → Prop), nm_setk Y c x k → k (Y.set c x)
  | [], _, _, _, h => h.elim
  | _ :: t, 0, x, k, h => h
  | y :: t, c + 1, x, k, h => nm_setk_ok t c x (fun t' => k (y :: t')) h
def nm_new (d n0 z0 mc ms ci : Nat) (fs : List (Option (Option Nat))) : ND := fun _ J _ Y pc L S h => match nm_chk n0 z0 mc ms Y (.inl (ci, fs)) L S with
  | true => match Nat.beq Y.length (n0 + d) with
    | true => (∀ j, h (n0 + d) j = 0) ∧ nm_app Y (.inl (ci, fs)) (fun Y' => J Y' (pc + 3) L (.inr (.inr (n0 + d)) :: S) h)
    | false => False
  | false => False
def nm_newa (d n0 z0 mc ms k : Nat) : ND := fun _ J _ Y pc L S h => match S with
  | .inl a :: S => match nm_chk n0 z0 mc ms Y (.inr (k, a.toNat)) L S with
    | true => match Nat.beq Y.length (n0 + d) with
      | true => (∀ j, h (n0 + d) j = 0) ∧ (0 ≤ a ∧ a < 1000000) ∧ nm_app Y (.inr (k, a.toNat)) (fun Y' => J Y' (pc + 2) L (.inr (.inr (n0 + d)) :: S) h)
      | false => False
    | false => False
  | _ => False
def nm_get (ci k : Nat) : ND := fun _ J _ Y pc L S h => match S with
  | .inr (.inr c) :: S => match Y[c]? with
    | some (.inl o) => match o.1 == ci, o.2[k]? with
      | true, some (some (some r)) => J Y (pc + 3) L (.inr (.inr r) :: S) h
      | _, _ => False
    | _ => False
  | _ => False
def nm_put (ci k : Nat) : ND := fun _ J _ Y pc L S h => match S with
  | .inl v :: .inr (.inr c) :: S => match Y[c]? with
    | some (.inl o) => match o.1 == ci, o.2[k]? with
      | true, some none => (v = 0 ∨ v = 1) ∧ J Y (pc + 3) L S (am_up h c k v)
      | _, _ => False
    | _ => False
  | _ => False
def nm_putr (ci k : Nat) : ND := fun _ J _ Y pc L S h => match S with
  | .inr (.inr r) :: .inr (.inr c) :: S => match Y[c]? with
    | some (.inl o) => match o.1 == ci, o.2[k]? with
      | true, some (some none) => nm_setk o.2 k (some (some r)) (fun fs => nm_setk Y c (.inl (o.1, fs)) (fun Y' => J Y' (pc + 3) L S h))
      | _, _ => False
    | _ => False
  | _ => False
def nm_obj : ND := fun _ J _ Y pc L S h => match S with
  | .inr (.inr _) :: S => match Nat.ble (am_cw S) 8 with
    | true => J Y (pc + 3) L S h
    | false => False
  | _ => False
def nm_ret (n0 z0 mc ms : Nat) : ND := fun _ _ R Y _ _ S h => match S with
  | [] => match Nat.beq Y.length (n0 + mc) && Nat.beq (nm_sz Y) (z0 + ms) with
    | true => R Y h
    | false => False
  | _ => False
/-- a constructor's call: n arguments beside the new object; mc2 cells of ms2 slots come -/
def nm_call (n0 z0 mc ms k n mc2 ms2 : Nat) : ND := fun G J _ Y pc L S h => am_pop (n + 1) [] S (fun as S' => match as with
  | .inr (.inr _) :: _ => match Nat.ble (am_cw S') 8 && (nm_okb Y.length Y && nm_vl Y.length L && nm_vr Y.length S' && Nat.ble n0 Y.length && Nat.ble z0 (nm_sz Y) && Nat.ble (Y.length - n0 + mc2) mc && Nat.ble (nm_sz Y - z0 + ms2) ms) with
    | true => G k Y as h (fun Y' h' => J Y' (pc + 3) L S' h')
    | false => False
  | _ => False)
