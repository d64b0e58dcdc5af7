/-! the law's walk, out of what the calls do (op_all) -/
def lw_P (b : Addr) (xs : List Int32) (args : Array Value) (s : State) : Prop := args = #[.ref b] ∧ s.IntsAt b xs ∧ xs.length ≤ 2048 ∧ (Jvm.Cond.and given_1 narrow_1).before args s = true
/-- what holds at the law's entry -/
def lw_At (p : Program) (s : State) (m : MethodId) (meth : Method) (c : Code) (b L : Nat) (xs : Nat → Int32) : Prop :=
  p.tables.exec = Jvm.exec ∧ c.code = code ∧ meth.sig.returnType = ret ∧ c.maxLocals = 8 ∧ s.vm.findClass R_law = some m.cls ∧ (∀ w ∈ lw_tbl, w.before #[Value.ref b] s = true) ∧ va_X b L xs s s.heap ∧ b < s.heap.size ∧ meth.locks = false ∧ (Jvm.Cond.and given_1 narrow_1).before #[Value.ref b] s = true
theorem lw_begin {p : Program} {e : Env} {s : State} {m : MethodId} {below : List Frame} {meth : Method} {c : Code} (l : Launch) {b L : Nat} {xs : Nat → Int32} (hL : L ≤ 2048) (C0 : lw_At p s m meth c b L xs) {I : Nat → AH → Prop} (hI : I 0 lp_h) (hmono : ∀ n h, I n h → I (n + 1) h) (hops : ∀ (s : State) (E : AE), tx_0 s E → ∀ n h, n ≤ 512 → I n h → op_all E l s (I (n + 1)) h) : W p l e room_1 s m #[Value.ref b] below meth c s.heap [] 0 0 (lw_Z below #[Value.ref b] s) (entryFrame m ([Value.ref b] : List Value).toArray 8) := by
  obtain ⟨hx, hb, hr, hml, hown, hts, hX, hbl, hlk, hgv⟩ := C0
  obtain ⟨E0, e1, hK⟩ := lp_K hts b
  have eb : E0.2.2 1000 = b := by rw [e1]
  have hg : ∀ w ∈ lj_X :: am_Gw, w.before #[Value.ref b] s = true := by
    intro w hw
    rcases List.mem_cons.mp hw with rfl | hw
    · exact hts _ (List.mem_of_getElem? (i := 50) (by decide +kernel))
    · exact hts w (List.mem_filter.mp hw).1
  have hN : nm_N s := ⟨va_Nw.of rfl (hts _ (List.mem_of_getElem? (i := 77) (by decide +kernel))), va_Nw.of rfl (hts _ (List.mem_of_getElem? (i := 139) (by decide +kernel)))⟩
  have X : nm_C am_cl E0 (lj_A s) p s m #[Value.ref b] meth c 8 code "PointDeskLaw" (lj_X :: am_Gw) := ⟨hx, hb, hml, hown, hg, hK, fun q hq => hq, hlk, hN⟩
  have hl := lv_entry [Value.ref b] (n := 8) (show (1 : Nat) ≤ 8 by omega)
  have hend : nm_J am_cl E0 0 0 (lj_A s) p l e room_1 s m #[Value.ref b] below meth c 8 (lw_Z below #[Value.ref b] s) lp_Y 20 [some (.inr (.inr 1000)), some (.inr (.inr 0)), some (.inr (.inr 24)), some (.inr (.inr 34)), none, none, none, none] [] lp_h := by
    rw [← eb]
    refine lp_conv (fun ad h1 h2 => ?_)
    have ea : (nm_ad E0 ad).2.2 1000 = b := by rw [← eb]; exact h1 1000 (Nat.le_refl _)
    have C : lj_C (nm_ad E0 ad) p s m meth c L xs := by
      unfold lj_C
      rw [ea]
      exact ⟨⟨hx, hb, hml, hown, hg, hK, fun q hq => hq, fun k hk => h2 k hk, hlk⟩, hX, hbl, hr, lp_tx hts hgv h2, hL⟩
    refine (am_iconst_ok (G := am_g (nm_ad E0 ad) l) (Rt := fun _ _ => False) (n := 0) (pc := 20) C.1 (by decide +kernel)) _ _ _ ?_
    refine (am_istore_ok (G := am_g (nm_ad E0 ad) l) (Rt := fun _ _ => False) (k := 4) (pc := 21) C.1 (by decide) (by decide +kernel)) _ _ _ ?_
    exact lj_loop C hmono (hops s _ (lp_tx hts hgv h2)) 513 0 (by omega) lp_h hI
  have hj := lp_run (E0 := E0) (l := l) (J := nm_J am_cl E0 0 0 (lj_A s) p l e room_1 s m #[Value.ref b] below meth c 8 (lw_Z below #[Value.ref b] s)) (fun Y pc L S h hs => by
    unfold nm_s at hs
    split at hs
    · rename_i f hf
      have hmem : (pc, f) ∈ lp_t := by
        obtain ⟨l1, l2, e1, -⟩ := List.lookup_eq_some_iff.mp hf
        rw [e1]; simp
      exact lp_T X (pc, f) hmem Y L S h hs
    · exact hs.elim) hend
  rw [lg_entry_eq]
  refine hj (fun _ => b) (fun k _ => by rw [e1]) s.heap [] _ (fun k q hq => by simp [nm_w] at hq) ⟨fun i j p q hp => by simp [nm_w] at hp, fun k q hq => by simp [nm_w] at hq⟩ va_S.rf ⟨hl.1, hl.2.1, fun q hq => hl.2.2 q ?_⟩
  exact am_l0_mem (nm_ad E0 (fun _ => b)) [.inr (.inr 1000)] 8 0 q hq
set_option maxHeartbeats 4000000 in
theorem lw_walk (l : Launch) (b : Addr) (xs : List Int32) {I : Nat → AH → Prop} (hI : I 0 lp_h) (hmono : ∀ n h, I n h → I (n + 1) h) (hops : ∀ (s : State) (E : AE), tx_0 s E → ∀ n h, n ≤ 512 → I n h → op_all E l s (I (n + 1)) h) : MetFree l x (headSpec (Jvm.Cond.code x code maxLocals ret :: tables_1) room_1) (lw_P b xs) (fun _ _ _ _ _ => True) lw_Q := by
  refine MetFree.of_bodyS (code := code) (maxLocals := maxLocals) (ret := ret) (by decide) ?_ ?_
  · intro args s m h hn
    obtain ⟨meth, c, h1, h2, h3, h4, h5, h6, -, -⟩ := Cond.code_spec hn (atoms_spec (ws := Jvm.Cond.code x code maxLocals ret :: tables_1) h _ List.mem_cons_self)
    exact ⟨meth, c, h1, h2, h3, h4, h5, h6⟩
  · intro p e s m args below meth c s₁ B hml0 hP _
    obtain ⟨rfl, hx, hbd, hgv⟩ := hP
    obtain ⟨scr, harrAt, hlist, hof, hsmall⟩ := hx
    obtain ⟨hcb, hkn, -, -⟩ := State.arrayAt?_spec harrAt
    have hown : s.vm.findClass R_law = some m.cls := findClass_of_methodNamed B.named
    have hts0 : ∀ c ∈ (Jvm.Cond.code x code maxLocals ret :: tables_1), c.before #[Value.ref b] s = true := atoms_spec (ws := Jvm.Cond.code x code maxLocals ret :: tables_1) B.pre
    have hts : ∀ w ∈ lw_tbl, w.before #[Value.ref b] s = true := k2_hts_sels lw_privs (fun w hw => hts0 w (List.mem_cons_of_mem _ hw)) lw_privs_ok
    have hml : c.maxLocals = 8 := B.maxLocals_eq (hts0 _ List.mem_cons_self)
    have X₀ : Stand p l e room_1 s m #[Value.ref b] below meth c s₁ [] 0 0 := Stand.of_body B
    have hh0 : s₁.heap = s.heap := by rw [B.state]; rfl
    have hsz : scr.slots.size = xs.length := by rw [← Array.length_toList, hlist, List.length_map]
    have hval : ∀ j : Nat, j < xs.length → scr.slots[j]? = some (.int (xs.getD j 0)) := fun j hj => by
      rw [← Array.getElem?_toList, hlist]
      simp [hj]
    have hbl : b < s.heap.size := (Array.getElem?_eq_some_iff.mp hcb).1
    have hX : va_X b xs.length (fun j => xs.getD j 0) s s.heap := ⟨scr, hcb, hof, hkn, hsz, hval⟩
    have K : W p l e room_1 s m #[Value.ref b] below meth c s₁.heap [] 0 0 (lw_Z below #[Value.ref b] s) (entryFrame m ([Value.ref b] : List Value).toArray 8) := by
      rw [hh0]
      exact lw_begin l hbd ⟨B.exec, B.bytes, B.returns, hml, hown, hts, hX, hbl, B.notSynchronized, hgv⟩ hI hmono hops
    obtain ⟨t, a1, o, b1, b2, b3⟩ := K s₁ rfl X₀
    exact ⟨t, o, a1, b1, b2, b3⟩
theorem lw_pre_spec {args : Array Value} {s : State} (h : (Jvm.Cond.and given_1 narrow_1).before args s = true) (hr : rest_1_c.before args s = true) : ∃ (b : Addr) (xs : List Int32), lw_P b xs args s := by
  have hs := flat_of_before _ h
  have hq := flat_of_before _ hr
  have hc : (Cond.count 1).before args s = true := hs _ (by decide +kernel)
  have harr : (Cond.arrayOf (.arg 0) .int).before args s = true := hs _ (by decide +kernel)
  have hle : (Cond.le (.length (.arg 0)) (.int 2048)).before args s = true := hs _ (by decide +kernel)
  have hlen : (Cond.isInt (.length (.arg 0))).before args s = true := hq _ (by decide +kernel)
  have hall : (Cond.all (.arg 0) (.isInt (.elem (.arg 0) (.index 0)))).before args s = true := hq _ (by decide +kernel)
  obtain ⟨b, xs, hb, hx⟩ := State.ints_of_pre rfl harr hlen hall
  have hsm : xs.length < 2 ^ 31 := hx.choose_spec.2.2.2
  have hev : (Term.length (.arg 0)).eval args s none [] s = some (.int xs.length.toInt32) := hx.length_eval hb
  have hv := Cond.le_ints hev (show (Term.int 2048).eval args s none [] s = some (.int 2048) from rfl)
  have hd : xs.length.toInt32 ≤ 2048 := by
    simpa [Cond.before, Cond.holds, hv] using hle
  have hN : xs.length ≤ 2048 := (Int32.ofNat_le_ofNat hsm (by decide)).mp (show Int32.ofNat xs.length ≤ Int32.ofNat 2048 from hd)
  exact ⟨b, xs, Cond.one_arg hc (show args[0]? = some (.ref b) from hb), hx, hN, h⟩
theorem lw_comes (l : Launch) {I : Nat → AH → Prop} (hI : I 0 lp_h) (hmono : ∀ n h, I n h → I (n + 1) h) (hops : ∀ (s : State) (E : AE), tx_0 s E → ∀ n h, n ≤ 512 → I n h → op_all E l s (I (n + 1)) h) : Comes l x (Jvm.Cond.code x code maxLocals ret :: tables_1) room_1 (fun tb e args s => Calls_1 tb e args s ∧ rest_1 tb e args s ∧ Pre_1 tb e args s)
    (fun _ _ args s o t => lw_Q args s o t) := by
  intro p e ha hc hk s m args below hf hfit hheap happ hpre
  obtain ⟨b, xs, hP⟩ := lw_pre_spec hpre.2.2 hpre.2.1
  obtain ⟨k, o, h1, h2, h3, hQ⟩ := lw_walk l b xs hI hmono hops p e ha hc hk s m args below hf ((Spec.applies_iff_loose hf).mp happ).1 hP trivial
  exact ⟨k, o, h1, h2, h3, hQ⟩
theorem lw_frame {s t : State} {o : Outcome} {args : Array Value} (h : Framed s o t [] 1065 10022) :
    Framed s o t (fieldLocs frame_1_writes args s ++ arrayLocs frame_1_arrays args s ++ staticLocs frame_1_statics s) 1065 10022 := h
theorem lw_limb {I : Nat → AH → Prop} (hI : I 0 lp_h) (hmono : ∀ n h, I n h → I (n + 1) h) (hops : ∀ (l : Launch) (s : State) (E : AE), l.stackTraces = false → tx_0 s E → ∀ n h, n ≤ 512 → I n h → op_all E l s (I (n + 1)) h) (L : Cond) (hL : ∀ (args : Array Value) (s t : State), L.after args s (.returned (some (.int 1))) t = true) :
    ArmFor flags0 classFile x code maxLocals ret World_1 tables_1 room_1 Calls_1 rest_1 Pre_1
      (fun tb e a s o t => postC L tb e a s o t ∧ Framed s o t (fieldLocs frame_1_writes a s ++ arrayLocs frame_1_arrays a s ++ staticLocs frame_1_statics s) 1065 10022) := by
  intro l hfl _ _ p e ha hc hk s m args below hf hfit hheap happ hpre
  have htr : l.stackTraces = false := by unfold Launch.stackTraces; rw [hfl]; decide +kernel
  obtain ⟨k, o, h1, h2, h3, rfl, hF⟩ := lw_comes l hI hmono (fun s E => hops l s E htr) p e ha hc hk s m args below hf hfit hheap happ hpre
  exact ⟨k, _, h1, h2, h3, hL args s _, lw_frame hF⟩
/-- the claim, out of an invariant that every call keeps -/
theorem lw_claim {I : Nat → AH → Prop} (hI : I 0 lp_h) (hmono : ∀ n h, I n h → I (n + 1) h) (hops : ∀ (l : Launch) (s : State) (E : AE), l.stackTraces = false → tx_0 s E → ∀ n h, n ≤ 512 → I n h → op_all E l s (I (n + 1)) h) : Claimed_1_1 ∧ Claimed_1_2 := ⟨lw_limb hI hmono hops limb_1_1 (fun args s t => by simp [limb_1_1, Cond.after, Cond.holds, Cond.value]), lw_limb hI hmono hops limb_1_2 (fun args s t => Cond.after_iff.mpr (by
  first | (rw [show limb_1_2 = Cond.eq .result (.int 1) from rfl, Cond.eq_ints (x := 1) (y := 1) rfl rfl]; simp; done) | (simp [limb_1_2, Cond.value, Term.eval]; done)))⟩
