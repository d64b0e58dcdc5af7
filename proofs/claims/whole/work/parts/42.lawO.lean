/-! printed: the law, call by call -/
abbrev lo_L (i : Int) : List (Option AV) := [some (.inr (.inr 1000)), some (.inr (.inr 0)), some (.inr (.inr 24)), some (.inr (.inr 34)), some (.inl i), none, none, none]
abbrev lo_x (xs : Nat → Int32) (i k : Int) : Int := (xs (i + k).toNat).toInt
/-- both answer alike: an int -/
def lo_I (E : AE) (l : Launch) (kc km : Nat) (as : List AV) (I : AH → Prop) (h : AH) : Prop := am_g E l kc (.inr (.inr 0) :: as) h (fun r h1 => ∃ v : Int, r = some (.inl v) ∧ -2147483648 ≤ v ∧ v < 2147483648 ∧ am_g E l km (.inr (.inr 24) :: as) h1 (fun r h2 => r = some (.inl v) ∧ I h2))
/-- a long -/
def lo_W (E : AE) (l : Launch) (kc km : Nat) (as : List AV) (I : AH → Prop) (h : AH) : Prop := am_g E l kc (.inr (.inr 0) :: as) h (fun r h1 => ∃ v : Int, r = some (.inr (.inl v)) ∧ -9223372036854775808 ≤ v ∧ v < 9223372036854775808 ∧ am_g E l km (.inr (.inr 24) :: as) h1 (fun r h2 => r = some (.inr (.inl v)) ∧ I h2))
/-- by a helper: what is thrown (0: nothing), and an int -/
def lo_H (E : AE) (l : Launch) (s0 : State) (q : HM) (km : Nat) (as : List AV) (I : AH → Prop) (h : AH) : Prop := hp_G E l s0 q (.inr (.inr 0) :: as ++ [.inr (.inr 34)]) h (fun r h1 => ∃ k : Int, r = some (.inl k) ∧ 0 ≤ k ∧ k ≤ 2 ∧ am_g E l km (.inr (.inr 24) :: as) h1 (fun r h2 => ∃ v : Int, r = some (.inl v) ∧ -2147483648 ≤ v ∧ v < 2147483648 ∧ h2 24 0 = k ∧ (k = 0 → h2 34 0 = v) ∧ I h2))
def lo_HL (E : AE) (l : Launch) (s0 : State) (q : HM) (km : Nat) (as : List AV) (I : AH → Prop) (h : AH) : Prop := hp_G E l s0 q (.inr (.inr 0) :: as ++ [.inr (.inr 34)]) h (fun r h1 => ∃ k : Int, r = some (.inl k) ∧ 0 ≤ k ∧ k ≤ 2 ∧ am_g E l km (.inr (.inr 24) :: as) h1 (fun r h2 => ∃ v : Int, r = some (.inr (.inl v)) ∧ -9223372036854775808 ≤ v ∧ v < 9223372036854775808 ∧ h2 24 0 = k ∧ (k = 0 → h2 34 0 = v) ∧ I h2))
def lo_HV (E : AE) (l : Launch) (s0 : State) (q : HM) (km : Nat) (as : List AV) (I : AH → Prop) (h : AH) : Prop := hp_G E l s0 q (.inr (.inr 0) :: as) h (fun r h1 => ∃ k : Int, r = some (.inl k) ∧ 0 ≤ k ∧ k ≤ 2 ∧ am_g E l km (.inr (.inr 24) :: as) h1 (fun r h2 => r = none ∧ h2 24 0 = k ∧ I h2))
set_option maxRecDepth 20000 in
set_option maxHeartbeats 2000000 in
theorem s_Mo_thrown {E : AE} {l : Launch} {h : AH} {Q : AR} (hQ : Q (some (.inl (h 24 0))) h) : am_g E l 91 [.inr (.inr 24)] h Q := by
  refine am_met T_Mo_thrown (by decide) (Nat.le_of_ble_eq_true rfl) (fun J hJ => ?_)
  repeat (first | refine hJ _ _ _ _ ?_ | refine And.intro (by omega) (fun _ => ?_) | refine And.intro (by omega) ?_ | refine And.intro (fun _ => ?_) (by omega))
  exact hQ
set_option maxRecDepth 20000 in
set_option maxHeartbeats 2000000 in
theorem lo_0 {E : AE} {l : Launch} {len : Nat} {xs : Nat → Int32} {J : AJ} (hJ : ∀ pc L S h, am_s (ltb_0 len xs) (am_g E l) J (fun _ _ => False) pc L S h → J pc L S h) {i : Int} (i1 : 0 ≤ i) (i2 : i + 3 < len) (hl : len ≤ 2048) {h : AH} {I : AH → Prop} (hop : lo_I E l 2 93 [.inl (lo_x xs i 1), .inl (lo_x xs i 2)] I h) (hend : ∀ h', I h' → J 1041 (lo_L i) [] h') : J 152 (lo_L i) [] h := by
  repeat (first | refine hJ _ _ _ _ ?_ | refine And.intro (by omega) (fun _ => ?_) | refine And.intro (by omega) ?_ | refine And.intro (fun _ => ?_) (by omega))
  refine am_g_mono hop ?_
  rintro _ h1 ⟨v, rfl, v1, v2, hop2⟩
  repeat (first | refine hJ _ _ _ _ ?_ | refine And.intro (by omega) (fun _ => ?_) | refine And.intro (by omega) ?_ | refine And.intro (fun _ => ?_) (by omega))
  refine am_g_mono hop2 ?_
  rintro _ h2 ⟨rfl, hI⟩
  repeat (first | exact hend _ hI | refine hJ _ _ _ _ ?_ | refine And.intro (by omega) (fun _ => ?_) | refine And.intro (by omega) ?_ | refine And.intro (fun _ => ?_) (by omega))
set_option maxRecDepth 20000 in
set_option maxHeartbeats 2000000 in
theorem lo_1 {E : AE} {l : Launch} {len : Nat} {xs : Nat → Int32} {J : AJ} (hJ : ∀ pc L S h, am_s (ltb_1 len xs) (am_g E l) J (fun _ _ => False) pc L S h → J pc L S h) {i : Int} (i1 : 0 ≤ i) (i2 : i + 3 < len) (hl : len ≤ 2048) {h : AH} {I : AH → Prop} (hop : lo_I E l 5 94 [] I h) (hend : ∀ h', I h' → J 1041 (lo_L i) [] h') : J 189 (lo_L i) [] h := by
  repeat (first | refine hJ _ _ _ _ ?_ | refine And.intro (by omega) (fun _ => ?_) | refine And.intro (by omega) ?_ | refine And.intro (fun _ => ?_) (by omega))
  refine am_g_mono hop ?_
  rintro _ h1 ⟨v, rfl, v1, v2, hop2⟩
  repeat (first | refine hJ _ _ _ _ ?_ | refine And.intro (by omega) (fun _ => ?_) | refine And.intro (by omega) ?_ | refine And.intro (fun _ => ?_) (by omega))
  refine am_g_mono hop2 ?_
  rintro _ h2 ⟨rfl, hI⟩
  repeat (first | exact hend _ hI | refine hJ _ _ _ _ ?_ | refine And.intro (by omega) (fun _ => ?_) | refine And.intro (by omega) ?_ | refine And.intro (fun _ => ?_) (by omega))
set_option maxRecDepth 20000 in
set_option maxHeartbeats 2000000 in
theorem lo_2 {E : AE} {l : Launch} {len : Nat} {xs : Nat → Int32} {J : AJ} (hJ : ∀ pc L S h, am_s (ltb_2 len xs) (am_g E l) J (fun _ _ => False) pc L S h → J pc L S h) {i : Int} (i1 : 0 ≤ i) (i2 : i + 3 < len) (hl : len ≤ 2048) {h : AH} {I : AH → Prop} (hop : lo_I E l 26 109 [.inl (lo_x xs i 1)] I h) (hend : ∀ h', I h' → J 1041 (lo_L i) [] h') : J 202 (lo_L i) [] h := by
  repeat (first | refine hJ _ _ _ _ ?_ | refine And.intro (by omega) (fun _ => ?_) | refine And.intro (by omega) ?_ | refine And.intro (fun _ => ?_) (by omega))
  refine am_g_mono hop ?_
  rintro _ h1 ⟨v, rfl, v1, v2, hop2⟩
  repeat (first | refine hJ _ _ _ _ ?_ | refine And.intro (by omega) (fun _ => ?_) | refine And.intro (by omega) ?_ | refine And.intro (fun _ => ?_) (by omega))
  refine am_g_mono hop2 ?_
  rintro _ h2 ⟨rfl, hI⟩
  repeat (first | exact hend _ hI | refine hJ _ _ _ _ ?_ | refine And.intro (by omega) (fun _ => ?_) | refine And.intro (by omega) ?_ | refine And.intro (fun _ => ?_) (by omega))
set_option maxRecDepth 20000 in
set_option maxHeartbeats 2000000 in
theorem lo_3 {E : AE} {l : Launch} {s0 : State} {len : Nat} {xs : Nat → Int32} {J J2 : AJ} (hJ : ∀ pc L S h, am_s (ltb_3 len xs) (am_g E l) J (fun _ _ => False) pc L S h → J pc L S h) (hJ2 : ∀ pc L S h, am_s (ltb_3 len xs) (am_g E l) J2 (fun _ _ => False) pc L S h → J2 pc L S h) {i : Int} (i1 : 0 ≤ i) (i2 : i + 3 < len) (hl : len ≤ 2048) {h : AH} {I : AH → Prop} (hH : ∀ h, hp_G E l s0 q_L_at [.inr (.inr 0), .inl (lo_x xs i 1), .inl (lo_x xs i 2), .inr (.inr 34)] h (fun r h' => J2 244 (lo_L i) (am_on r []) h') → J 241 (lo_L i) ([.inr (.inr 0), .inl (lo_x xs i 1), .inl (lo_x xs i 2), .inr (.inr 34)].reverse ++ []) h) (hop : lo_H E l s0 q_L_at 111 [.inl (lo_x xs i 1), .inl (lo_x xs i 2)] I h) (hend : ∀ x y z h', I h' → J2 1041 [some (.inr (.inr 1000)), some (.inr (.inr 0)), some (.inr (.inr 24)), some (.inr (.inr 34)), some (.inl i), x, y, z] [] h') : J 227 (lo_L i) [] h := by
  repeat (first | refine hH _ ?_ | refine hJ _ _ _ _ ?_ | refine And.intro (by omega) (fun _ => ?_) | refine And.intro (by omega) ?_ | refine And.intro (fun _ => ?_) (by omega))
  refine hp_mono hop ?_
  rintro _ h1 ⟨k, rfl, k1, k2, hop2⟩
  clear hJ hH
  have hJ := hJ2
  repeat (first | refine hJ _ _ _ _ ?_ | refine And.intro (by omega) (fun _ => ?_) | refine And.intro (by omega) ?_ | refine And.intro (fun _ => ?_) (by omega))
  refine am_g_mono hop2 ?_
  rintro _ h2 ⟨v, rfl, v1, v2, hk, hv, hI⟩
  repeat (first | refine hJ _ _ _ _ ?_ | refine And.intro (by omega) (fun _ => ?_) | refine And.intro (by omega) ?_ | refine And.intro (fun _ => ?_) (by omega))
  refine s_Mo_thrown ?_
  repeat (first | refine hJ _ _ _ _ ?_ | refine And.intro (by omega) (fun _ => ?_) | refine And.intro (by omega) ?_ | refine And.intro (fun _ => ?_) (by omega))
  refine And.intro (fun hc => ?_) (fun hc => ?_)
  · repeat (first | exact hend _ _ _ _ hI | refine hJ _ _ _ _ ?_ | refine And.intro (by omega) (fun _ => ?_) | refine And.intro (by omega) ?_ | refine And.intro (fun _ => ?_) (by omega))
  · have hv : h2 34 (Int.toNat 0) = v := hv (by omega)
    repeat (first | exact hend _ _ _ _ hI | refine hJ _ _ _ _ ?_ | refine And.intro (by omega) (fun _ => ?_) | refine And.intro (by omega) ?_ | refine And.intro (fun _ => ?_) (by omega))
set_option maxRecDepth 20000 in
set_option maxHeartbeats 2000000 in
theorem lo_4 {E : AE} {l : Launch} {len : Nat} {xs : Nat → Int32} {J : AJ} (hJ : ∀ pc L S h, am_s (ltb_4 len xs) (am_g E l) J (fun _ _ => False) pc L S h → J pc L S h) {i : Int} (i1 : 0 ≤ i) (i2 : i + 3 < len) (hl : len ≤ 2048) {h : AH} {I : AH → Prop} (hop : lo_I E l 30 112 [.inl (lo_x xs i 1)] I h) (hend : ∀ h', I h' → J 1041 (lo_L i) [] h') : J 295 (lo_L i) [] h := by
  repeat (first | refine hJ _ _ _ _ ?_ | refine And.intro (by omega) (fun _ => ?_) | refine And.intro (by omega) ?_ | refine And.intro (fun _ => ?_) (by omega))
  refine am_g_mono hop ?_
  rintro _ h1 ⟨v, rfl, v1, v2, hop2⟩
  repeat (first | refine hJ _ _ _ _ ?_ | refine And.intro (by omega) (fun _ => ?_) | refine And.intro (by omega) ?_ | refine And.intro (fun _ => ?_) (by omega))
  refine am_g_mono hop2 ?_
  rintro _ h2 ⟨rfl, hI⟩
  repeat (first | exact hend _ hI | refine hJ _ _ _ _ ?_ | refine And.intro (by omega) (fun _ => ?_) | refine And.intro (by omega) ?_ | refine And.intro (fun _ => ?_) (by omega))
set_option maxRecDepth 20000 in
set_option maxHeartbeats 2000000 in
theorem lo_5 {E : AE} {l : Launch} {len : Nat} {xs : Nat → Int32} {J : AJ} (hJ : ∀ pc L S h, am_s (ltb_5 len xs) (am_g E l) J (fun _ _ => False) pc L S h → J pc L S h) {i : Int} (i1 : 0 ≤ i) (i2 : i + 3 < len) (hl : len ≤ 2048) {h : AH} {I : AH → Prop} (hop : lo_W E l 32 113 [] I h) (hend : ∀ h', I h' → J 1041 (lo_L i) [] h') : J 320 (lo_L i) [] h := by
  repeat (first | refine hJ _ _ _ _ ?_ | refine And.intro (by omega) (fun _ => ?_) | refine And.intro (by omega) ?_ | refine And.intro (fun _ => ?_) (by omega))
  refine am_g_mono hop ?_
  rintro _ h1 ⟨v, rfl, v1, v2, hop2⟩
  repeat (first | refine hJ _ _ _ _ ?_ | refine And.intro (by omega) (fun _ => ?_) | refine And.intro (by omega) ?_ | refine And.intro (fun _ => ?_) (by omega))
  refine am_g_mono hop2 ?_
  rintro _ h2 ⟨rfl, hI⟩
  repeat (first | exact hend _ hI | refine hJ _ _ _ _ ?_ | refine And.intro (by omega) (fun _ => ?_) | refine And.intro (by omega) ?_ | refine And.intro (fun _ => ?_) (by omega))
set_option maxRecDepth 20000 in
set_option maxHeartbeats 2000000 in
theorem lo_6 {E : AE} {l : Launch} {len : Nat} {xs : Nat → Int32} {J : AJ} (hJ : ∀ pc L S h, am_s (ltb_6 len xs) (am_g E l) J (fun _ _ => False) pc L S h → J pc L S h) {i : Int} (i1 : 0 ≤ i) (i2 : i + 3 < len) (hl : len ≤ 2048) {h : AH} {I : AH → Prop} (hop : lo_I E l 33 114 [.inl (lo_x xs i 1)] I h) (hend : ∀ h', I h' → J 1041 (lo_L i) [] h') : J 334 (lo_L i) [] h := by
  repeat (first | refine hJ _ _ _ _ ?_ | refine And.intro (by omega) (fun _ => ?_) | refine And.intro (by omega) ?_ | refine And.intro (fun _ => ?_) (by omega))
  refine am_g_mono hop ?_
  rintro _ h1 ⟨v, rfl, v1, v2, hop2⟩
  repeat (first | refine hJ _ _ _ _ ?_ | refine And.intro (by omega) (fun _ => ?_) | refine And.intro (by omega) ?_ | refine And.intro (fun _ => ?_) (by omega))
  refine am_g_mono hop2 ?_
  rintro _ h2 ⟨rfl, hI⟩
  repeat (first | exact hend _ hI | refine hJ _ _ _ _ ?_ | refine And.intro (by omega) (fun _ => ?_) | refine And.intro (by omega) ?_ | refine And.intro (fun _ => ?_) (by omega))
set_option maxRecDepth 20000 in
set_option maxHeartbeats 2000000 in
theorem lo_7 {E : AE} {l : Launch} {len : Nat} {xs : Nat → Int32} {J : AJ} (hJ : ∀ pc L S h, am_s (ltb_7 len xs) (am_g E l) J (fun _ _ => False) pc L S h → J pc L S h) {i : Int} (i1 : 0 ≤ i) (i2 : i + 3 < len) (hl : len ≤ 2048) {h : AH} {I : AH → Prop} (hop : lo_I E l 34 115 [.inl (lo_x xs i 1)] I h) (hend : ∀ h', I h' → J 1041 (lo_L i) [] h') : J 359 (lo_L i) [] h := by
  repeat (first | refine hJ _ _ _ _ ?_ | refine And.intro (by omega) (fun _ => ?_) | refine And.intro (by omega) ?_ | refine And.intro (fun _ => ?_) (by omega))
  refine am_g_mono hop ?_
  rintro _ h1 ⟨v, rfl, v1, v2, hop2⟩
  repeat (first | refine hJ _ _ _ _ ?_ | refine And.intro (by omega) (fun _ => ?_) | refine And.intro (by omega) ?_ | refine And.intro (fun _ => ?_) (by omega))
  refine am_g_mono hop2 ?_
  rintro _ h2 ⟨rfl, hI⟩
  repeat (first | exact hend _ hI | refine hJ _ _ _ _ ?_ | refine And.intro (by omega) (fun _ => ?_) | refine And.intro (by omega) ?_ | refine And.intro (fun _ => ?_) (by omega))
set_option maxRecDepth 20000 in
set_option maxHeartbeats 2000000 in
theorem lo_8 {E : AE} {l : Launch} {s0 : State} {len : Nat} {xs : Nat → Int32} {J J2 : AJ} (hJ : ∀ pc L S h, am_s (ltb_8 len xs) (am_g E l) J (fun _ _ => False) pc L S h → J pc L S h) (hJ2 : ∀ pc L S h, am_s (ltb_8 len xs) (am_g E l) J2 (fun _ _ => False) pc L S h → J2 pc L S h) {i : Int} (i1 : 0 ≤ i) (i2 : i + 3 < len) (hl : len ≤ 2048) {h : AH} {I : AH → Prop} (hH : ∀ h, hp_G E l s0 q_L_distance [.inr (.inr 0), .inl (lo_x xs i 1), .inl (lo_x xs i 2), .inr (.inr 34)] h (fun r h' => J2 401 (lo_L i) (am_on r []) h') → J 398 (lo_L i) ([.inr (.inr 0), .inl (lo_x xs i 1), .inl (lo_x xs i 2), .inr (.inr 34)].reverse ++ []) h) (hop : lo_HL E l s0 q_L_distance 116 [.inl (lo_x xs i 1), .inl (lo_x xs i 2)] I h) (hend : ∀ x y z h', I h' → J2 1041 [some (.inr (.inr 1000)), some (.inr (.inr 0)), some (.inr (.inr 24)), some (.inr (.inr 34)), some (.inl i), x, y, z] [] h') : J 384 (lo_L i) [] h := by
  repeat (first | refine hH _ ?_ | refine hJ _ _ _ _ ?_ | refine And.intro (by omega) (fun _ => ?_) | refine And.intro (by omega) ?_ | refine And.intro (fun _ => ?_) (by omega))
  refine hp_mono hop ?_
  rintro _ h1 ⟨k, rfl, k1, k2, hop2⟩
  clear hJ hH
  have hJ := hJ2
  repeat (first | refine hJ _ _ _ _ ?_ | refine And.intro (by omega) (fun _ => ?_) | refine And.intro (by omega) ?_ | refine And.intro (fun _ => ?_) (by omega))
  refine am_g_mono hop2 ?_
  rintro _ h2 ⟨v, rfl, v1, v2, hk, hv, hI⟩
  repeat (first | refine hJ _ _ _ _ ?_ | refine And.intro (by omega) (fun _ => ?_) | refine And.intro (by omega) ?_ | refine And.intro (fun _ => ?_) (by omega))
  refine s_Mo_thrown ?_
  repeat (first | refine hJ _ _ _ _ ?_ | refine And.intro (by omega) (fun _ => ?_) | refine And.intro (by omega) ?_ | refine And.intro (fun _ => ?_) (by omega))
  refine And.intro (fun hc => ?_) (fun hc => ?_)
  · repeat (first | exact hend _ _ _ _ hI | refine hJ _ _ _ _ ?_ | refine And.intro (by omega) (fun _ => ?_) | refine And.intro (by omega) ?_ | refine And.intro (fun _ => ?_) (by omega))
  · have hv : h2 34 (Int.toNat 0) = v := hv (by omega)
    repeat (first | exact hend _ _ _ _ hI | refine hJ _ _ _ _ ?_ | refine And.intro (by omega) (fun _ => ?_) | refine And.intro (by omega) ?_ | refine And.intro (fun _ => ?_) (by omega))
set_option maxRecDepth 20000 in
set_option maxHeartbeats 2000000 in
theorem lo_9 {E : AE} {l : Launch} {len : Nat} {xs : Nat → Int32} {J : AJ} (hJ : ∀ pc L S h, am_s (ltb_9 len xs) (am_g E l) J (fun _ _ => False) pc L S h → J pc L S h) {i : Int} (i1 : 0 ≤ i) (i2 : i + 3 < len) (hl : len ≤ 2048) {h : AH} {I : AH → Prop} (hop : lo_I E l 45 123 [.inl (lo_x xs i 1)] I h) (hend : ∀ h', I h' → J 1041 (lo_L i) [] h') : J 451 (lo_L i) [] h := by
  repeat (first | refine hJ _ _ _ _ ?_ | refine And.intro (by omega) (fun _ => ?_) | refine And.intro (by omega) ?_ | refine And.intro (fun _ => ?_) (by omega))
  refine am_g_mono hop ?_
  rintro _ h1 ⟨v, rfl, v1, v2, hop2⟩
  repeat (first | refine hJ _ _ _ _ ?_ | refine And.intro (by omega) (fun _ => ?_) | refine And.intro (by omega) ?_ | refine And.intro (fun _ => ?_) (by omega))
  refine am_g_mono hop2 ?_
  rintro _ h2 ⟨rfl, hI⟩
  repeat (first | exact hend _ hI | refine hJ _ _ _ _ ?_ | refine And.intro (by omega) (fun _ => ?_) | refine And.intro (by omega) ?_ | refine And.intro (fun _ => ?_) (by omega))
set_option maxRecDepth 20000 in
set_option maxHeartbeats 2000000 in
theorem lo_10 {E : AE} {l : Launch} {s0 : State} {len : Nat} {xs : Nat → Int32} {J J2 : AJ} (hJ : ∀ pc L S h, am_s (ltb_10 len xs) (am_g E l) J (fun _ _ => False) pc L S h → J pc L S h) (hJ2 : ∀ pc L S h, am_s (ltb_10 len xs) (am_g E l) J2 (fun _ _ => False) pc L S h → J2 pc L S h) {i : Int} (i1 : 0 ≤ i) (i2 : i + 3 < len) (hl : len ≤ 2048) {h : AH} {I : AH → Prop} (hH : ∀ h, hp_G E l s0 q_L_side [.inr (.inr 0), .inl (lo_x xs i 1), .inl (lo_x xs i 2), .inr (.inr 34)] h (fun r h' => J2 493 (lo_L i) (am_on r []) h') → J 490 (lo_L i) ([.inr (.inr 0), .inl (lo_x xs i 1), .inl (lo_x xs i 2), .inr (.inr 34)].reverse ++ []) h) (hop : lo_HL E l s0 q_L_side 124 [.inl (lo_x xs i 1), .inl (lo_x xs i 2)] I h) (hend : ∀ x y z h', I h' → J2 1041 [some (.inr (.inr 1000)), some (.inr (.inr 0)), some (.inr (.inr 24)), some (.inr (.inr 34)), some (.inl i), x, y, z] [] h') : J 476 (lo_L i) [] h := by
  repeat (first | refine hH _ ?_ | refine hJ _ _ _ _ ?_ | refine And.intro (by omega) (fun _ => ?_) | refine And.intro (by omega) ?_ | refine And.intro (fun _ => ?_) (by omega))
  refine hp_mono hop ?_
  rintro _ h1 ⟨k, rfl, k1, k2, hop2⟩
  clear hJ hH
  have hJ := hJ2
  repeat (first | refine hJ _ _ _ _ ?_ | refine And.intro (by omega) (fun _ => ?_) | refine And.intro (by omega) ?_ | refine And.intro (fun _ => ?_) (by omega))
  refine am_g_mono hop2 ?_
  rintro _ h2 ⟨v, rfl, v1, v2, hk, hv, hI⟩
  repeat (first | refine hJ _ _ _ _ ?_ | refine And.intro (by omega) (fun _ => ?_) | refine And.intro (by omega) ?_ | refine And.intro (fun _ => ?_) (by omega))
  refine s_Mo_thrown ?_
  repeat (first | refine hJ _ _ _ _ ?_ | refine And.intro (by omega) (fun _ => ?_) | refine And.intro (by omega) ?_ | refine And.intro (fun _ => ?_) (by omega))
  refine And.intro (fun hc => ?_) (fun hc => ?_)
  · repeat (first | exact hend _ _ _ _ hI | refine hJ _ _ _ _ ?_ | refine And.intro (by omega) (fun _ => ?_) | refine And.intro (by omega) ?_ | refine And.intro (fun _ => ?_) (by omega))
  · have hv : h2 34 (Int.toNat 0) = v := hv (by omega)
    repeat (first | exact hend _ _ _ _ hI | refine hJ _ _ _ _ ?_ | refine And.intro (by omega) (fun _ => ?_) | refine And.intro (by omega) ?_ | refine And.intro (fun _ => ?_) (by omega))
set_option maxRecDepth 20000 in
set_option maxHeartbeats 2000000 in
theorem lo_11 {E : AE} {l : Launch} {s0 : State} {len : Nat} {xs : Nat → Int32} {J J2 : AJ} (hJ : ∀ pc L S h, am_s (ltb_11 len xs) (am_g E l) J (fun _ _ => False) pc L S h → J pc L S h) (hJ2 : ∀ pc L S h, am_s (ltb_11 len xs) (am_g E l) J2 (fun _ _ => False) pc L S h → J2 pc L S h) {i : Int} (i1 : 0 ≤ i) (i2 : i + 3 < len) (hl : len ≤ 2048) {h : AH} {I : AH → Prop} (hH : ∀ h, hp_G E l s0 q_L_where [.inr (.inr 0), .inl (lo_x xs i 1), .inl (lo_x xs i 2), .inr (.inr 34)] h (fun r h' => J2 560 (lo_L i) (am_on r []) h') → J 557 (lo_L i) ([.inr (.inr 0), .inl (lo_x xs i 1), .inl (lo_x xs i 2), .inr (.inr 34)].reverse ++ []) h) (hop : lo_H E l s0 q_L_where 125 [.inl (lo_x xs i 1), .inl (lo_x xs i 2)] I h) (hend : ∀ x y z h', I h' → J2 1041 [some (.inr (.inr 1000)), some (.inr (.inr 0)), some (.inr (.inr 24)), some (.inr (.inr 34)), some (.inl i), x, y, z] [] h') : J 543 (lo_L i) [] h := by
  repeat (first | refine hH _ ?_ | refine hJ _ _ _ _ ?_ | refine And.intro (by omega) (fun _ => ?_) | refine And.intro (by omega) ?_ | refine And.intro (fun _ => ?_) (by omega))
  refine hp_mono hop ?_
  rintro _ h1 ⟨k, rfl, k1, k2, hop2⟩
  clear hJ hH
  have hJ := hJ2
  repeat (first | refine hJ _ _ _ _ ?_ | refine And.intro (by omega) (fun _ => ?_) | refine And.intro (by omega) ?_ | refine And.intro (fun _ => ?_) (by omega))
  refine am_g_mono hop2 ?_
  rintro _ h2 ⟨v, rfl, v1, v2, hk, hv, hI⟩
  repeat (first | refine hJ _ _ _ _ ?_ | refine And.intro (by omega) (fun _ => ?_) | refine And.intro (by omega) ?_ | refine And.intro (fun _ => ?_) (by omega))
  refine s_Mo_thrown ?_
  repeat (first | refine hJ _ _ _ _ ?_ | refine And.intro (by omega) (fun _ => ?_) | refine And.intro (by omega) ?_ | refine And.intro (fun _ => ?_) (by omega))
  refine And.intro (fun hc => ?_) (fun hc => ?_)
  · repeat (first | exact hend _ _ _ _ hI | refine hJ _ _ _ _ ?_ | refine And.intro (by omega) (fun _ => ?_) | refine And.intro (by omega) ?_ | refine And.intro (fun _ => ?_) (by omega))
  · have hv : h2 34 (Int.toNat 0) = v := hv (by omega)
    repeat (first | exact hend _ _ _ _ hI | refine hJ _ _ _ _ ?_ | refine And.intro (by omega) (fun _ => ?_) | refine And.intro (by omega) ?_ | refine And.intro (fun _ => ?_) (by omega))
set_option maxRecDepth 20000 in
set_option maxHeartbeats 2000000 in
theorem lo_12 {E : AE} {l : Launch} {s0 : State} {len : Nat} {xs : Nat → Int32} {J J2 : AJ} (hJ : ∀ pc L S h, am_s (ltb_12 len xs) (am_g E l) J (fun _ _ => False) pc L S h → J pc L S h) (hJ2 : ∀ pc L S h, am_s (ltb_12 len xs) (am_g E l) J2 (fun _ _ => False) pc L S h → J2 pc L S h) {i : Int} (i1 : 0 ≤ i) (i2 : i + 3 < len) (hl : len ≤ 2048) {h : AH} {I : AH → Prop} (hH : ∀ h, hp_G E l s0 q_L_nearest [.inr (.inr 0), .inl (lo_x xs i 1), .inl (lo_x xs i 2), .inr (.inr 34)] h (fun r h' => J2 628 (lo_L i) (am_on r []) h') → J 625 (lo_L i) ([.inr (.inr 0), .inl (lo_x xs i 1), .inl (lo_x xs i 2), .inr (.inr 34)].reverse ++ []) h) (hop : lo_H E l s0 q_L_nearest 126 [.inl (lo_x xs i 1), .inl (lo_x xs i 2)] I h) (hend : ∀ x y z h', I h' → J2 1041 [some (.inr (.inr 1000)), some (.inr (.inr 0)), some (.inr (.inr 24)), some (.inr (.inr 34)), some (.inl i), x, y, z] [] h') : J 611 (lo_L i) [] h := by
  repeat (first | refine hH _ ?_ | refine hJ _ _ _ _ ?_ | refine And.intro (by omega) (fun _ => ?_) | refine And.intro (by omega) ?_ | refine And.intro (fun _ => ?_) (by omega))
  refine hp_mono hop ?_
  rintro _ h1 ⟨k, rfl, k1, k2, hop2⟩
  clear hJ hH
  have hJ := hJ2
  repeat (first | refine hJ _ _ _ _ ?_ | refine And.intro (by omega) (fun _ => ?_) | refine And.intro (by omega) ?_ | refine And.intro (fun _ => ?_) (by omega))
  refine am_g_mono hop2 ?_
  rintro _ h2 ⟨v, rfl, v1, v2, hk, hv, hI⟩
  repeat (first | refine hJ _ _ _ _ ?_ | refine And.intro (by omega) (fun _ => ?_) | refine And.intro (by omega) ?_ | refine And.intro (fun _ => ?_) (by omega))
  refine s_Mo_thrown ?_
  repeat (first | refine hJ _ _ _ _ ?_ | refine And.intro (by omega) (fun _ => ?_) | refine And.intro (by omega) ?_ | refine And.intro (fun _ => ?_) (by omega))
  refine And.intro (fun hc => ?_) (fun hc => ?_)
  · repeat (first | exact hend _ _ _ _ hI | refine hJ _ _ _ _ ?_ | refine And.intro (by omega) (fun _ => ?_) | refine And.intro (by omega) ?_ | refine And.intro (fun _ => ?_) (by omega))
  · have hv : h2 34 (Int.toNat 0) = v := hv (by omega)
    repeat (first | exact hend _ _ _ _ hI | refine hJ _ _ _ _ ?_ | refine And.intro (by omega) (fun _ => ?_) | refine And.intro (by omega) ?_ | refine And.intro (fun _ => ?_) (by omega))
set_option maxRecDepth 20000 in
set_option maxHeartbeats 2000000 in
theorem lo_13 {E : AE} {l : Launch} {s0 : State} {len : Nat} {xs : Nat → Int32} {J J2 : AJ} (hJ : ∀ pc L S h, am_s (ltb_13 len xs) (am_g E l) J (fun _ _ => False) pc L S h → J pc L S h) (hJ2 : ∀ pc L S h, am_s (ltb_13 len xs) (am_g E l) J2 (fun _ _ => False) pc L S h → J2 pc L S h) {i : Int} (i1 : 0 ≤ i) (i2 : i + 3 < len) (hl : len ≤ 2048) {h : AH} {I : AH → Prop} (hH : ∀ h, hp_G E l s0 q_L_beside [.inr (.inr 0), .inl (lo_x xs i 1), .inl (lo_x xs i 2), .inl (lo_x xs i 3), .inr (.inr 34)] h (fun r h' => J2 702 (lo_L i) (am_on r []) h') → J 699 (lo_L i) ([.inr (.inr 0), .inl (lo_x xs i 1), .inl (lo_x xs i 2), .inl (lo_x xs i 3), .inr (.inr 34)].reverse ++ []) h) (hop : lo_H E l s0 q_L_beside 128 [.inl (lo_x xs i 1), .inl (lo_x xs i 2), .inl (lo_x xs i 3)] I h) (hend : ∀ x y z h', I h' → J2 1041 [some (.inr (.inr 1000)), some (.inr (.inr 0)), some (.inr (.inr 24)), some (.inr (.inr 34)), some (.inl i), x, y, z] [] h') : J 679 (lo_L i) [] h := by
  repeat (first | refine hH _ ?_ | refine hJ _ _ _ _ ?_ | refine And.intro (by omega) (fun _ => ?_) | refine And.intro (by omega) ?_ | refine And.intro (fun _ => ?_) (by omega))
  refine hp_mono hop ?_
  rintro _ h1 ⟨k, rfl, k1, k2, hop2⟩
  clear hJ hH
  have hJ := hJ2
  repeat (first | refine hJ _ _ _ _ ?_ | refine And.intro (by omega) (fun _ => ?_) | refine And.intro (by omega) ?_ | refine And.intro (fun _ => ?_) (by omega))
  refine am_g_mono hop2 ?_
  rintro _ h2 ⟨v, rfl, v1, v2, hk, hv, hI⟩
  repeat (first | refine hJ _ _ _ _ ?_ | refine And.intro (by omega) (fun _ => ?_) | refine And.intro (by omega) ?_ | refine And.intro (fun _ => ?_) (by omega))
  refine s_Mo_thrown ?_
  repeat (first | refine hJ _ _ _ _ ?_ | refine And.intro (by omega) (fun _ => ?_) | refine And.intro (by omega) ?_ | refine And.intro (fun _ => ?_) (by omega))
  refine And.intro (fun hc => ?_) (fun hc => ?_)
  · repeat (first | exact hend _ _ _ _ hI | refine hJ _ _ _ _ ?_ | refine And.intro (by omega) (fun _ => ?_) | refine And.intro (by omega) ?_ | refine And.intro (fun _ => ?_) (by omega))
  · have hv : h2 34 (Int.toNat 0) = v := hv (by omega)
    repeat (first | exact hend _ _ _ _ hI | refine hJ _ _ _ _ ?_ | refine And.intro (by omega) (fun _ => ?_) | refine And.intro (by omega) ?_ | refine And.intro (fun _ => ?_) (by omega))
set_option maxRecDepth 20000 in
set_option maxHeartbeats 2000000 in
theorem lo_14 {E : AE} {l : Launch} {len : Nat} {xs : Nat → Int32} {J : AJ} (hJ : ∀ pc L S h, am_s (ltb_14 len xs) (am_g E l) J (fun _ _ => False) pc L S h → J pc L S h) {i : Int} (i1 : 0 ≤ i) (i2 : i + 3 < len) (hl : len ≤ 2048) {h : AH} {I : AH → Prop} (hop : lo_I E l 54 129 [.inl (lo_x xs i 1)] I h) (hend : ∀ h', I h' → J 1041 (lo_L i) [] h') : J 759 (lo_L i) [] h := by
  repeat (first | refine hJ _ _ _ _ ?_ | refine And.intro (by omega) (fun _ => ?_) | refine And.intro (by omega) ?_ | refine And.intro (fun _ => ?_) (by omega))
  refine am_g_mono hop ?_
  rintro _ h1 ⟨v, rfl, v1, v2, hop2⟩
  repeat (first | refine hJ _ _ _ _ ?_ | refine And.intro (by omega) (fun _ => ?_) | refine And.intro (by omega) ?_ | refine And.intro (fun _ => ?_) (by omega))
  refine am_g_mono hop2 ?_
  rintro _ h2 ⟨rfl, hI⟩
  repeat (first | exact hend _ hI | refine hJ _ _ _ _ ?_ | refine And.intro (by omega) (fun _ => ?_) | refine And.intro (by omega) ?_ | refine And.intro (fun _ => ?_) (by omega))
set_option maxRecDepth 20000 in
set_option maxHeartbeats 2000000 in
theorem lo_15 {E : AE} {l : Launch} {len : Nat} {xs : Nat → Int32} {J : AJ} (hJ : ∀ pc L S h, am_s (ltb_15 len xs) (am_g E l) J (fun _ _ => False) pc L S h → J pc L S h) {i : Int} (i1 : 0 ≤ i) (i2 : i + 3 < len) (hl : len ≤ 2048) {h : AH} {I : AH → Prop} (hop : lo_I E l 55 130 [] I h) (hend : ∀ h', I h' → J 1041 (lo_L i) [] h') : J 784 (lo_L i) [] h := by
  repeat (first | refine hJ _ _ _ _ ?_ | refine And.intro (by omega) (fun _ => ?_) | refine And.intro (by omega) ?_ | refine And.intro (fun _ => ?_) (by omega))
  refine am_g_mono hop ?_
  rintro _ h1 ⟨v, rfl, v1, v2, hop2⟩
  repeat (first | refine hJ _ _ _ _ ?_ | refine And.intro (by omega) (fun _ => ?_) | refine And.intro (by omega) ?_ | refine And.intro (fun _ => ?_) (by omega))
  refine am_g_mono hop2 ?_
  rintro _ h2 ⟨rfl, hI⟩
  repeat (first | exact hend _ hI | refine hJ _ _ _ _ ?_ | refine And.intro (by omega) (fun _ => ?_) | refine And.intro (by omega) ?_ | refine And.intro (fun _ => ?_) (by omega))
set_option maxRecDepth 20000 in
set_option maxHeartbeats 2000000 in
theorem lo_16 {E : AE} {l : Launch} {len : Nat} {xs : Nat → Int32} {J : AJ} (hJ : ∀ pc L S h, am_s (ltb_16 len xs) (am_g E l) J (fun _ _ => False) pc L S h → J pc L S h) {i : Int} (i1 : 0 ≤ i) (i2 : i + 3 < len) (hl : len ≤ 2048) {h : AH} {I : AH → Prop} (hop : lo_I E l 56 131 [.inl (lo_x xs i 1)] I h) (hend : ∀ h', I h' → J 1041 (lo_L i) [] h') : J 797 (lo_L i) [] h := by
  repeat (first | refine hJ _ _ _ _ ?_ | refine And.intro (by omega) (fun _ => ?_) | refine And.intro (by omega) ?_ | refine And.intro (fun _ => ?_) (by omega))
  refine am_g_mono hop ?_
  rintro _ h1 ⟨v, rfl, v1, v2, hop2⟩
  repeat (first | refine hJ _ _ _ _ ?_ | refine And.intro (by omega) (fun _ => ?_) | refine And.intro (by omega) ?_ | refine And.intro (fun _ => ?_) (by omega))
  refine am_g_mono hop2 ?_
  rintro _ h2 ⟨rfl, hI⟩
  repeat (first | exact hend _ hI | refine hJ _ _ _ _ ?_ | refine And.intro (by omega) (fun _ => ?_) | refine And.intro (by omega) ?_ | refine And.intro (fun _ => ?_) (by omega))
set_option maxRecDepth 20000 in
set_option maxHeartbeats 2000000 in
theorem lo_17 {E : AE} {l : Launch} {s0 : State} {len : Nat} {xs : Nat → Int32} {J J2 : AJ} (hJ : ∀ pc L S h, am_s (ltb_17 len xs) (am_g E l) J (fun _ _ => False) pc L S h → J pc L S h) (hJ2 : ∀ pc L S h, am_s (ltb_17 len xs) (am_g E l) J2 (fun _ _ => False) pc L S h → J2 pc L S h) {i : Int} (i1 : 0 ≤ i) (i2 : i + 3 < len) (hl : len ≤ 2048) {h : AH} {I : AH → Prop} (hH : ∀ h, hp_G E l s0 q_L_turn [.inr (.inr 0), .inl (lo_x xs i 1), .inl (lo_x xs i 2)] h (fun r h' => J2 838 (lo_L i) (am_on r []) h') → J 835 (lo_L i) ([.inr (.inr 0), .inl (lo_x xs i 1), .inl (lo_x xs i 2)].reverse ++ []) h) (hop : lo_HV E l s0 q_L_turn 132 [.inl (lo_x xs i 1), .inl (lo_x xs i 2)] I h) (hend : ∀ x y z h', I h' → J2 1041 [some (.inr (.inr 1000)), some (.inr (.inr 0)), some (.inr (.inr 24)), some (.inr (.inr 34)), some (.inl i), x, y, z] [] h') : J 822 (lo_L i) [] h := by
  repeat (first | refine hH _ ?_ | refine hJ _ _ _ _ ?_ | refine And.intro (by omega) (fun _ => ?_) | refine And.intro (by omega) ?_ | refine And.intro (fun _ => ?_) (by omega))
  refine hp_mono hop ?_
  rintro _ h1 ⟨k, rfl, k1, k2, hop2⟩
  clear hJ hH
  have hJ := hJ2
  repeat (first | refine hJ _ _ _ _ ?_ | refine And.intro (by omega) (fun _ => ?_) | refine And.intro (by omega) ?_ | refine And.intro (fun _ => ?_) (by omega))
  refine am_g_mono hop2 ?_
  rintro _ h2 ⟨rfl, hk, hI⟩
  repeat (first | refine hJ _ _ _ _ ?_ | refine And.intro (by omega) (fun _ => ?_) | refine And.intro (by omega) ?_ | refine And.intro (fun _ => ?_) (by omega))
  refine s_Mo_thrown ?_
  repeat (first | exact hend _ _ _ _ hI | refine hJ _ _ _ _ ?_ | refine And.intro (by omega) (fun _ => ?_) | refine And.intro (by omega) ?_ | refine And.intro (fun _ => ?_) (by omega))
set_option maxRecDepth 20000 in
set_option maxHeartbeats 2000000 in
theorem lo_18 {E : AE} {l : Launch} {len : Nat} {xs : Nat → Int32} {J : AJ} (hJ : ∀ pc L S h, am_s (ltb_18 len xs) (am_g E l) J (fun _ _ => False) pc L S h → J pc L S h) {i : Int} (i1 : 0 ≤ i) (i2 : i + 3 < len) (hl : len ≤ 2048) {h : AH} {I : AH → Prop} (hop : lo_I E l 66 138 [] I h) (hend : ∀ h', I h' → J 1041 (lo_L i) [] h') : J 870 (lo_L i) [] h := by
  repeat (first | refine hJ _ _ _ _ ?_ | refine And.intro (by omega) (fun _ => ?_) | refine And.intro (by omega) ?_ | refine And.intro (fun _ => ?_) (by omega))
  refine am_g_mono hop ?_
  rintro _ h1 ⟨v, rfl, v1, v2, hop2⟩
  repeat (first | refine hJ _ _ _ _ ?_ | refine And.intro (by omega) (fun _ => ?_) | refine And.intro (by omega) ?_ | refine And.intro (fun _ => ?_) (by omega))
  refine am_g_mono hop2 ?_
  rintro _ h2 ⟨rfl, hI⟩
  repeat (first | exact hend _ hI | refine hJ _ _ _ _ ?_ | refine And.intro (by omega) (fun _ => ?_) | refine And.intro (by omega) ?_ | refine And.intro (fun _ => ?_) (by omega))
set_option maxRecDepth 20000 in
set_option maxHeartbeats 2000000 in
theorem lo_19 {E : AE} {l : Launch} {len : Nat} {xs : Nat → Int32} {J : AJ} (hJ : ∀ pc L S h, am_s (ltb_19 len xs) (am_g E l) J (fun _ _ => False) pc L S h → J pc L S h) {i : Int} (i1 : 0 ≤ i) (i2 : i + 3 < len) (hl : len ≤ 2048) {h : AH} {I : AH → Prop} (hop : lo_I E l 67 139 [.inl (lo_x xs i 1)] I h) (hend : ∀ h', I h' → J 1041 (lo_L i) [] h') : J 883 (lo_L i) [] h := by
  repeat (first | refine hJ _ _ _ _ ?_ | refine And.intro (by omega) (fun _ => ?_) | refine And.intro (by omega) ?_ | refine And.intro (fun _ => ?_) (by omega))
  refine am_g_mono hop ?_
  rintro _ h1 ⟨v, rfl, v1, v2, hop2⟩
  repeat (first | refine hJ _ _ _ _ ?_ | refine And.intro (by omega) (fun _ => ?_) | refine And.intro (by omega) ?_ | refine And.intro (fun _ => ?_) (by omega))
  refine am_g_mono hop2 ?_
  rintro _ h2 ⟨rfl, hI⟩
  repeat (first | exact hend _ hI | refine hJ _ _ _ _ ?_ | refine And.intro (by omega) (fun _ => ?_) | refine And.intro (by omega) ?_ | refine And.intro (fun _ => ?_) (by omega))
set_option maxRecDepth 20000 in
set_option maxHeartbeats 2000000 in
theorem lo_20 {E : AE} {l : Launch} {len : Nat} {xs : Nat → Int32} {J : AJ} (hJ : ∀ pc L S h, am_s (ltb_20 len xs) (am_g E l) J (fun _ _ => False) pc L S h → J pc L S h) {i : Int} (i1 : 0 ≤ i) (i2 : i + 3 < len) (hl : len ≤ 2048) {h : AH} {I : AH → Prop} (hop : lo_I E l 69 141 [] I h) (hend : ∀ h', I h' → J 1041 (lo_L i) [] h') : J 908 (lo_L i) [] h := by
  repeat (first | refine hJ _ _ _ _ ?_ | refine And.intro (by omega) (fun _ => ?_) | refine And.intro (by omega) ?_ | refine And.intro (fun _ => ?_) (by omega))
  refine am_g_mono hop ?_
  rintro _ h1 ⟨v, rfl, v1, v2, hop2⟩
  repeat (first | refine hJ _ _ _ _ ?_ | refine And.intro (by omega) (fun _ => ?_) | refine And.intro (by omega) ?_ | refine And.intro (fun _ => ?_) (by omega))
  refine am_g_mono hop2 ?_
  rintro _ h2 ⟨rfl, hI⟩
  repeat (first | exact hend _ hI | refine hJ _ _ _ _ ?_ | refine And.intro (by omega) (fun _ => ?_) | refine And.intro (by omega) ?_ | refine And.intro (fun _ => ?_) (by omega))
set_option maxRecDepth 20000 in
set_option maxHeartbeats 2000000 in
theorem lo_21 {E : AE} {l : Launch} {len : Nat} {xs : Nat → Int32} {J : AJ} (hJ : ∀ pc L S h, am_s (ltb_21 len xs) (am_g E l) J (fun _ _ => False) pc L S h → J pc L S h) {i : Int} (i1 : 0 ≤ i) (i2 : i + 3 < len) (hl : len ≤ 2048) {h : AH} {I : AH → Prop} (hop : lo_W E l 72 143 [] I h) (hend : ∀ h', I h' → J 1041 (lo_L i) [] h') : J 921 (lo_L i) [] h := by
  repeat (first | refine hJ _ _ _ _ ?_ | refine And.intro (by omega) (fun _ => ?_) | refine And.intro (by omega) ?_ | refine And.intro (fun _ => ?_) (by omega))
  refine am_g_mono hop ?_
  rintro _ h1 ⟨v, rfl, v1, v2, hop2⟩
  repeat (first | refine hJ _ _ _ _ ?_ | refine And.intro (by omega) (fun _ => ?_) | refine And.intro (by omega) ?_ | refine And.intro (fun _ => ?_) (by omega))
  refine am_g_mono hop2 ?_
  rintro _ h2 ⟨rfl, hI⟩
  repeat (first | exact hend _ hI | refine hJ _ _ _ _ ?_ | refine And.intro (by omega) (fun _ => ?_) | refine And.intro (by omega) ?_ | refine And.intro (fun _ => ?_) (by omega))
set_option maxRecDepth 20000 in
set_option maxHeartbeats 2000000 in
theorem lo_22 {E : AE} {l : Launch} {s0 : State} {len : Nat} {xs : Nat → Int32} {J J2 : AJ} (hJ : ∀ pc L S h, am_s (ltb_22 len xs) (am_g E l) J (fun _ _ => False) pc L S h → J pc L S h) (hJ2 : ∀ pc L S h, am_s (ltb_22 len xs) (am_g E l) J2 (fun _ _ => False) pc L S h → J2 pc L S h) {i : Int} (i1 : 0 ≤ i) (i2 : i + 3 < len) (hl : len ≤ 2048) {h : AH} {I : AH → Prop} (hH : ∀ h, hp_G E l s0 q_L_inside [.inr (.inr 0), .inl (lo_x xs i 1), .inl (lo_x xs i 2), .inr (.inr 34)] h (fun r h' => J2 952 (lo_L i) (am_on r []) h') → J 949 (lo_L i) ([.inr (.inr 0), .inl (lo_x xs i 1), .inl (lo_x xs i 2), .inr (.inr 34)].reverse ++ []) h) (hop : lo_H E l s0 q_L_inside 144 [.inl (lo_x xs i 1), .inl (lo_x xs i 2)] I h) (hend : ∀ x y z h', I h' → J2 1041 [some (.inr (.inr 1000)), some (.inr (.inr 0)), some (.inr (.inr 24)), some (.inr (.inr 34)), some (.inl i), x, y, z] [] h') : J 935 (lo_L i) [] h := by
  repeat (first | refine hH _ ?_ | refine hJ _ _ _ _ ?_ | refine And.intro (by omega) (fun _ => ?_) | refine And.intro (by omega) ?_ | refine And.intro (fun _ => ?_) (by omega))
  refine hp_mono hop ?_
  rintro _ h1 ⟨k, rfl, k1, k2, hop2⟩
  clear hJ hH
  have hJ := hJ2
  repeat (first | refine hJ _ _ _ _ ?_ | refine And.intro (by omega) (fun _ => ?_) | refine And.intro (by omega) ?_ | refine And.intro (fun _ => ?_) (by omega))
  refine am_g_mono hop2 ?_
  rintro _ h2 ⟨v, rfl, v1, v2, hk, hv, hI⟩
  repeat (first | refine hJ _ _ _ _ ?_ | refine And.intro (by omega) (fun _ => ?_) | refine And.intro (by omega) ?_ | refine And.intro (fun _ => ?_) (by omega))
  refine s_Mo_thrown ?_
  repeat (first | refine hJ _ _ _ _ ?_ | refine And.intro (by omega) (fun _ => ?_) | refine And.intro (by omega) ?_ | refine And.intro (fun _ => ?_) (by omega))
  refine And.intro (fun hc => ?_) (fun hc => ?_)
  · repeat (first | exact hend _ _ _ _ hI | refine hJ _ _ _ _ ?_ | refine And.intro (by omega) (fun _ => ?_) | refine And.intro (by omega) ?_ | refine And.intro (fun _ => ?_) (by omega))
  · have hv : h2 34 (Int.toNat 0) = v := hv (by omega)
    repeat (first | exact hend _ _ _ _ hI | refine hJ _ _ _ _ ?_ | refine And.intro (by omega) (fun _ => ?_) | refine And.intro (by omega) ?_ | refine And.intro (fun _ => ?_) (by omega))
set_option maxRecDepth 20000 in
set_option maxHeartbeats 2000000 in
theorem lo_23 {E : AE} {l : Launch} {len : Nat} {xs : Nat → Int32} {J : AJ} (hJ : ∀ pc L S h, am_s (ltb_23 len xs) (am_g E l) J (fun _ _ => False) pc L S h → J pc L S h) {i : Int} (i1 : 0 ≤ i) (i2 : i + 3 < len) (hl : len ≤ 2048) {h : AH} {I : AH → Prop} (hop : lo_I E l 86 147 [.inl (lo_x xs i 1)] I h) (hend : ∀ h', I h' → J 1041 (lo_L i) [] h') : J 1003 (lo_L i) [] h := by
  repeat (first | refine hJ _ _ _ _ ?_ | refine And.intro (by omega) (fun _ => ?_) | refine And.intro (by omega) ?_ | refine And.intro (fun _ => ?_) (by omega))
  refine am_g_mono hop ?_
  rintro _ h1 ⟨v, rfl, v1, v2, hop2⟩
  repeat (first | refine hJ _ _ _ _ ?_ | refine And.intro (by omega) (fun _ => ?_) | refine And.intro (by omega) ?_ | refine And.intro (fun _ => ?_) (by omega))
  refine am_g_mono hop2 ?_
  rintro _ h2 ⟨rfl, hI⟩
  repeat (first | exact hend _ hI | refine hJ _ _ _ _ ?_ | refine And.intro (by omega) (fun _ => ?_) | refine And.intro (by omega) ?_ | refine And.intro (fun _ => ?_) (by omega))
set_option maxRecDepth 20000 in
set_option maxHeartbeats 2000000 in
theorem lo_24 {E : AE} {l : Launch} {len : Nat} {xs : Nat → Int32} {J : AJ} (hJ : ∀ pc L S h, am_s (ltb_24 len xs) (am_g E l) J (fun _ _ => False) pc L S h → J pc L S h) {i : Int} (i1 : 0 ≤ i) (i2 : i + 3 < len) (hl : len ≤ 2048) {h : AH} {I : AH → Prop} (hop : lo_I E l 90 148 [] I h) (hend : ∀ h', I h' → J 1041 (lo_L i) [] h') : J 1028 (lo_L i) [] h := by
  repeat (first | refine hJ _ _ _ _ ?_ | refine And.intro (by omega) (fun _ => ?_) | refine And.intro (by omega) ?_ | refine And.intro (fun _ => ?_) (by omega))
  refine am_g_mono hop ?_
  rintro _ h1 ⟨v, rfl, v1, v2, hop2⟩
  repeat (first | refine hJ _ _ _ _ ?_ | refine And.intro (by omega) (fun _ => ?_) | refine And.intro (by omega) ?_ | refine And.intro (fun _ => ?_) (by omega))
  refine am_g_mono hop2 ?_
  rintro _ h2 ⟨rfl, hI⟩
  repeat (first | exact hend _ hI | refine hJ _ _ _ _ ?_ | refine And.intro (by omega) (fun _ => ?_) | refine And.intro (by omega) ?_ | refine And.intro (fun _ => ?_) (by omega))
