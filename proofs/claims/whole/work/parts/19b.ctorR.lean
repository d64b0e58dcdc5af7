/-! printed: the constructors' runs -/
set_option maxRecDepth 100000 in
set_option maxHeartbeats 2000000 in
theorem kr_Po_1 {E : AE} {l : Launch} {Q : NR} {h : AH} (h0 : ∀ c j, 1 ≤ c → h c j = 0) (hQ : Q [.inl (8, [some none, some none, some none, some none, some none, some none, some none]), .inl (4, [some (some 2), some (some 3), none, none]), .inr (0, 61), .inr (0, 61)] h) : nm_G am_cl E l am_Gw am_ki 1 [.inl (8, [some none, some none, some none, some none, some none, some none, some none]), .inl (4, [some none, some none, none, none])] [.inr (.inr 1)] h Q := by
  refine nm_met (KT_Po 2 11) (by decide) rfl rfl (Nat.le_of_ble_eq_true rfl) (fun G J hG hJ => ?_)
  subst hG
  show J _ 0 [some (.inr (.inr 1))] [] _
  repeat (first | refine hJ _ _ _ _ _ ?_ | refine And.intro (fun j => by simp [am_up, h0]) ?_ | refine And.intro (by decide) ?_)
  refine cast (congrArg (Q _) ?_) hQ
  funext c j
  try simp only [am_up]
  try grind
set_option maxRecDepth 100000 in
set_option maxHeartbeats 2000000 in
theorem kr_Hu_4 {E : AE} {l : Launch} {Q : NR} {h : AH} (h0 : ∀ c j, 4 ≤ c → h c j = 0) (hQ : Q [.inl (8, [some (some 1), some none, some none, some none, some none, some none, some none]), .inl (4, [some (some 2), some (some 3), none, none]), .inr (0, 61), .inr (0, 61), .inl (1, [some (some 1), some (some 5), some (some 6), none, none]), .inr (2, 60), .inr (0, 60)] h) : nm_G am_cl E l am_Gw am_ki 2 [.inl (8, [some (some 1), some none, some none, some none, some none, some none, some none]), .inl (4, [some (some 2), some (some 3), none, none]), .inr (0, 61), .inr (0, 61), .inl (1, [some none, some none, some none, none, none])] [.inr (.inr 4), .inr (.inr 1)] h Q := by
  refine nm_met (KT_Hu 5 138) (by decide) rfl rfl (Nat.le_of_ble_eq_true rfl) (fun G J hG hJ => ?_)
  subst hG
  show J _ 0 [some (.inr (.inr 4)), some (.inr (.inr 1))] [] _
  repeat (first | refine hJ _ _ _ _ _ ?_ | refine And.intro (fun j => by simp [am_up, h0]) ?_ | refine And.intro (by decide) ?_)
  refine cast (congrArg (Q _) ?_) hQ
  funext c j
  try simp only [am_up]
  try grind
set_option maxRecDepth 100000 in
set_option maxHeartbeats 2000000 in
theorem kr_Wi_8 {E : AE} {l : Launch} {Q : NR} {h : AH} (h0 : ∀ c j, 8 ≤ c → h c j = 0) (hQ : Q [.inl (8, [some (some 1), some (some 4), some none, some none, some none, some none, some none]), .inl (4, [some (some 2), some (some 3), none, none]), .inr (0, 61), .inr (0, 61), .inl (1, [some (some 1), some (some 5), some (some 6), none, none]), .inr (2, 60), .inr (0, 60), .inl (2, [some none, some none, some none, some none]), .inl (7, [some (some 9)]), .inr (1, 5)] h) : nm_G am_cl E l am_Gw am_ki 0 [.inl (8, [some (some 1), some (some 4), some none, some none, some none, some none, some none]), .inl (4, [some (some 2), some (some 3), none, none]), .inr (0, 61), .inr (0, 61), .inl (1, [some (some 1), some (some 5), some (some 6), none, none]), .inr (2, 60), .inr (0, 60), .inl (2, [some none, some none, some none, some none]), .inl (7, [some none])] [.inr (.inr 8)] h Q := by
  refine nm_met (KT_Wi 9 263) (by decide) rfl rfl (Nat.le_of_ble_eq_true rfl) (fun G J hG hJ => ?_)
  subst hG
  show J _ 0 [some (.inr (.inr 8))] [] _
  repeat (first | refine hJ _ _ _ _ _ ?_ | refine And.intro (fun j => by simp [am_up, h0]) ?_ | refine And.intro (by decide) ?_)
  refine cast (congrArg (Q _) ?_) hQ
  funext c j
  try simp only [am_up]
  try grind
set_option maxRecDepth 100000 in
set_option maxHeartbeats 2000000 in
theorem kr_Wi_10 {E : AE} {l : Launch} {Q : NR} {h : AH} (h0 : ∀ c j, 10 ≤ c → h c j = 0) (hQ : Q [.inl (8, [some (some 1), some (some 4), some none, some none, some none, some none, some none]), .inl (4, [some (some 2), some (some 3), none, none]), .inr (0, 61), .inr (0, 61), .inl (1, [some (some 1), some (some 5), some (some 6), none, none]), .inr (2, 60), .inr (0, 60), .inl (2, [some none, some none, some (some 8), some none]), .inl (7, [some (some 9)]), .inr (1, 5), .inl (7, [some (some 11)]), .inr (1, 5)] h) : nm_G am_cl E l am_Gw am_ki 0 [.inl (8, [some (some 1), some (some 4), some none, some none, some none, some none, some none]), .inl (4, [some (some 2), some (some 3), none, none]), .inr (0, 61), .inr (0, 61), .inl (1, [some (some 1), some (some 5), some (some 6), none, none]), .inr (2, 60), .inr (0, 60), .inl (2, [some none, some none, some (some 8), some none]), .inl (7, [some (some 9)]), .inr (1, 5), .inl (7, [some none])] [.inr (.inr 10)] h Q := by
  refine nm_met (KT_Wi 11 269) (by decide) rfl rfl (Nat.le_of_ble_eq_true rfl) (fun G J hG hJ => ?_)
  subst hG
  show J _ 0 [some (.inr (.inr 10))] [] _
  repeat (first | refine hJ _ _ _ _ _ ?_ | refine And.intro (fun j => by simp [am_up, h0]) ?_ | refine And.intro (by decide) ?_)
  refine cast (congrArg (Q _) ?_) hQ
  funext c j
  try simp only [am_up]
  try grind
set_option maxRecDepth 100000 in
set_option maxHeartbeats 2000000 in
theorem kr_Hs_7 {E : AE} {l : Launch} {Q : NR} {h : AH} (h0 : ∀ c j, 7 ≤ c → h c j = 0) (hQ : Q [.inl (8, [some (some 1), some (some 4), some none, some none, some none, some none, some none]), .inl (4, [some (some 2), some (some 3), none, none]), .inr (0, 61), .inr (0, 61), .inl (1, [some (some 1), some (some 5), some (some 6), none, none]), .inr (2, 60), .inr (0, 60), .inl (2, [some (some 1), some (some 4), some (some 8), some (some 10)]), .inl (7, [some (some 9)]), .inr (1, 5), .inl (7, [some (some 11)]), .inr (1, 5)] h) : nm_G am_cl E l am_Gw am_ki 3 [.inl (8, [some (some 1), some (some 4), some none, some none, some none, some none, some none]), .inl (4, [some (some 2), some (some 3), none, none]), .inr (0, 61), .inr (0, 61), .inl (1, [some (some 1), some (some 5), some (some 6), none, none]), .inr (2, 60), .inr (0, 60), .inl (2, [some none, some none, some none, some none])] [.inr (.inr 7), .inr (.inr 1), .inr (.inr 4)] h Q := by
  refine nm_met (KT_Hs 8 262) (by decide) rfl rfl (Nat.le_of_ble_eq_true rfl) (fun G J hG hJ => ?_)
  subst hG
  show J _ 0 [some (.inr (.inr 7)), some (.inr (.inr 1)), some (.inr (.inr 4))] [] _
  repeat (first | refine hJ _ _ _ _ _ ?_ | refine And.intro (fun j => by simp [am_up, h0]) ?_ | refine And.intro (by decide) ?_)
  refine kr_Wi_8 (fun c j hc => by (try simp only [am_up]); first | exact h0 c j (by omega) | (rw [h0 c j (by omega)]; grind) | grind) ?_
  repeat (first | refine hJ _ _ _ _ _ ?_ | refine And.intro (fun j => by simp [am_up, h0]) ?_ | refine And.intro (by decide) ?_)
  refine kr_Wi_10 (fun c j hc => by (try simp only [am_up]); first | exact h0 c j (by omega) | (rw [h0 c j (by omega)]; grind) | grind) ?_
  repeat (first | refine hJ _ _ _ _ _ ?_ | refine And.intro (fun j => by simp [am_up, h0]) ?_ | refine And.intro (by decide) ?_)
  refine cast (congrArg (Q _) ?_) hQ
  funext c j
  try simp only [am_up]
  try grind
set_option maxRecDepth 100000 in
set_option maxHeartbeats 2000000 in
theorem kr_Hu_14 {E : AE} {l : Launch} {Q : NR} {h : AH} (h0 : ∀ c j, 14 ≤ c → h c j = 0) (hQ : Q [.inl (8, [some (some 1), some (some 4), some (some 7), some none, some none, some none, some none]), .inl (4, [some (some 2), some (some 3), none, none]), .inr (0, 61), .inr (0, 61), .inl (1, [some (some 1), some (some 5), some (some 6), none, none]), .inr (2, 60), .inr (0, 60), .inl (2, [some (some 1), some (some 4), some (some 8), some (some 10)]), .inl (7, [some (some 9)]), .inr (1, 5), .inl (7, [some (some 11)]), .inr (1, 5), .inl (3, [some (some 1), some none, some (some 13), none, none]), .inr (0, 60), .inl (1, [some (some 1), some (some 15), some (some 16), none, none]), .inr (2, 60), .inr (0, 60)] h) : nm_G am_cl E l am_Gw am_ki 2 [.inl (8, [some (some 1), some (some 4), some (some 7), some none, some none, some none, some none]), .inl (4, [some (some 2), some (some 3), none, none]), .inr (0, 61), .inr (0, 61), .inl (1, [some (some 1), some (some 5), some (some 6), none, none]), .inr (2, 60), .inr (0, 60), .inl (2, [some (some 1), some (some 4), some (some 8), some (some 10)]), .inl (7, [some (some 9)]), .inr (1, 5), .inl (7, [some (some 11)]), .inr (1, 5), .inl (3, [some (some 1), some none, some (some 13), none, none]), .inr (0, 60), .inl (1, [some none, some none, some none, none, none])] [.inr (.inr 14), .inr (.inr 1)] h Q := by
  refine nm_met (KT_Hu 15 344) (by decide) rfl rfl (Nat.le_of_ble_eq_true rfl) (fun G J hG hJ => ?_)
  subst hG
  show J _ 0 [some (.inr (.inr 14)), some (.inr (.inr 1))] [] _
  repeat (first | refine hJ _ _ _ _ _ ?_ | refine And.intro (fun j => by simp [am_up, h0]) ?_ | refine And.intro (by decide) ?_)
  refine cast (congrArg (Q _) ?_) hQ
  funext c j
  try simp only [am_up]
  try grind
set_option maxRecDepth 100000 in
set_option maxHeartbeats 2000000 in
theorem kr_La_12 {E : AE} {l : Launch} {Q : NR} {h : AH} (h0 : ∀ c j, 12 ≤ c → h c j = 0) (hQ : Q [.inl (8, [some (some 1), some (some 4), some (some 7), some none, some none, some none, some none]), .inl (4, [some (some 2), some (some 3), none, none]), .inr (0, 61), .inr (0, 61), .inl (1, [some (some 1), some (some 5), some (some 6), none, none]), .inr (2, 60), .inr (0, 60), .inl (2, [some (some 1), some (some 4), some (some 8), some (some 10)]), .inl (7, [some (some 9)]), .inr (1, 5), .inl (7, [some (some 11)]), .inr (1, 5), .inl (3, [some (some 1), some (some 14), some (some 13), none, none]), .inr (0, 60), .inl (1, [some (some 1), some (some 15), some (some 16), none, none]), .inr (2, 60), .inr (0, 60)] h) : nm_G am_cl E l am_Gw am_ki 4 [.inl (8, [some (some 1), some (some 4), some (some 7), some none, some none, some none, some none]), .inl (4, [some (some 2), some (some 3), none, none]), .inr (0, 61), .inr (0, 61), .inl (1, [some (some 1), some (some 5), some (some 6), none, none]), .inr (2, 60), .inr (0, 60), .inl (2, [some (some 1), some (some 4), some (some 8), some (some 10)]), .inl (7, [some (some 9)]), .inr (1, 5), .inl (7, [some (some 11)]), .inr (1, 5), .inl (3, [some none, some none, some none, none, none])] [.inr (.inr 12), .inr (.inr 1)] h Q := by
  refine nm_met (KT_La 13 279) (by decide) rfl rfl (Nat.le_of_ble_eq_true rfl) (fun G J hG hJ => ?_)
  subst hG
  show J _ 0 [some (.inr (.inr 12)), some (.inr (.inr 1))] [] _
  repeat (first | refine hJ _ _ _ _ _ ?_ | refine And.intro (fun j => by simp [am_up, h0]) ?_ | refine And.intro (by decide) ?_)
  refine kr_Hu_14 (fun c j hc => by (try simp only [am_up]); first | exact h0 c j (by omega) | (rw [h0 c j (by omega)]; grind) | grind) ?_
  repeat (first | refine hJ _ _ _ _ _ ?_ | refine And.intro (fun j => by simp [am_up, h0]) ?_ | refine And.intro (by decide) ?_)
  refine cast (congrArg (Q _) ?_) hQ
  funext c j
  try simp only [am_up]
  try grind
set_option maxRecDepth 100000 in
set_option maxHeartbeats 2000000 in
theorem kr_Ro_17 {E : AE} {l : Launch} {Q : NR} {h : AH} (h0 : ∀ c j, 17 ≤ c → h c j = 0) (hQ : Q [.inl (8, [some (some 1), some (some 4), some (some 7), some (some 12), some none, some none, some none]), .inl (4, [some (some 2), some (some 3), none, none]), .inr (0, 61), .inr (0, 61), .inl (1, [some (some 1), some (some 5), some (some 6), none, none]), .inr (2, 60), .inr (0, 60), .inl (2, [some (some 1), some (some 4), some (some 8), some (some 10)]), .inl (7, [some (some 9)]), .inr (1, 5), .inl (7, [some (some 11)]), .inr (1, 5), .inl (3, [some (some 1), some (some 14), some (some 13), none, none]), .inr (0, 60), .inl (1, [some (some 1), some (some 15), some (some 16), none, none]), .inr (2, 60), .inr (0, 60), .inl (5, [some (some 1), some (some 18), none, none]), .inr (0, 40)] h) : nm_G am_cl E l am_Gw am_ki 5 [.inl (8, [some (some 1), some (some 4), some (some 7), some (some 12), some none, some none, some none]), .inl (4, [some (some 2), some (some 3), none, none]), .inr (0, 61), .inr (0, 61), .inl (1, [some (some 1), some (some 5), some (some 6), none, none]), .inr (2, 60), .inr (0, 60), .inl (2, [some (some 1), some (some 4), some (some 8), some (some 10)]), .inl (7, [some (some 9)]), .inr (1, 5), .inl (7, [some (some 11)]), .inr (1, 5), .inl (3, [some (some 1), some (some 14), some (some 13), none, none]), .inr (0, 60), .inl (1, [some (some 1), some (some 15), some (some 16), none, none]), .inr (2, 60), .inr (0, 60), .inl (5, [some none, some none, none, none])] [.inr (.inr 17), .inr (.inr 1)] h Q := by
  refine nm_met (KT_Ro 18 468) (by decide) rfl rfl (Nat.le_of_ble_eq_true rfl) (fun G J hG hJ => ?_)
  subst hG
  show J _ 0 [some (.inr (.inr 17)), some (.inr (.inr 1))] [] _
  repeat (first | refine hJ _ _ _ _ _ ?_ | refine And.intro (fun j => by simp [am_up, h0]) ?_ | refine And.intro (by decide) ?_)
  refine cast (congrArg (Q _) ?_) hQ
  funext c j
  try simp only [am_up]
  try grind
set_option maxRecDepth 100000 in
set_option maxHeartbeats 2000000 in
theorem kr_Cr_19 {E : AE} {l : Launch} {Q : NR} {h : AH} (h0 : ∀ c j, 19 ≤ c → h c j = 0) (hQ : Q [.inl (8, [some (some 1), some (some 4), some (some 7), some (some 12), some (some 17), some none, some none]), .inl (4, [some (some 2), some (some 3), none, none]), .inr (0, 61), .inr (0, 61), .inl (1, [some (some 1), some (some 5), some (some 6), none, none]), .inr (2, 60), .inr (0, 60), .inl (2, [some (some 1), some (some 4), some (some 8), some (some 10)]), .inl (7, [some (some 9)]), .inr (1, 5), .inl (7, [some (some 11)]), .inr (1, 5), .inl (3, [some (some 1), some (some 14), some (some 13), none, none]), .inr (0, 60), .inl (1, [some (some 1), some (some 15), some (some 16), none, none]), .inr (2, 60), .inr (0, 60), .inl (5, [some (some 1), some (some 18), none, none]), .inr (0, 40), .inl (0, [some (some 1), some (some 17), some (some 20), none, none, none]), .inr (0, 780)] h) : nm_G am_cl E l am_Gw am_ki 6 [.inl (8, [some (some 1), some (some 4), some (some 7), some (some 12), some (some 17), some none, some none]), .inl (4, [some (some 2), some (some 3), none, none]), .inr (0, 61), .inr (0, 61), .inl (1, [some (some 1), some (some 5), some (some 6), none, none]), .inr (2, 60), .inr (0, 60), .inl (2, [some (some 1), some (some 4), some (some 8), some (some 10)]), .inl (7, [some (some 9)]), .inr (1, 5), .inl (7, [some (some 11)]), .inr (1, 5), .inl (3, [some (some 1), some (some 14), some (some 13), none, none]), .inr (0, 60), .inl (1, [some (some 1), some (some 15), some (some 16), none, none]), .inr (2, 60), .inr (0, 60), .inl (5, [some (some 1), some (some 18), none, none]), .inr (0, 40), .inl (0, [some none, some none, some none, none, none, none])] [.inr (.inr 19), .inr (.inr 1), .inr (.inr 17)] h Q := by
  refine nm_met (KT_Cr 20 514) (by decide) rfl rfl (Nat.le_of_ble_eq_true rfl) (fun G J hG hJ => ?_)
  subst hG
  show J _ 0 [some (.inr (.inr 19)), some (.inr (.inr 1)), some (.inr (.inr 17))] [] _
  repeat (first | refine hJ _ _ _ _ _ ?_ | refine And.intro (fun j => by simp [am_up, h0]) ?_ | refine And.intro (by decide) ?_)
  refine cast (congrArg (Q _) ?_) hQ
  funext c j
  try simp only [am_up]
  try grind
set_option maxRecDepth 100000 in
set_option maxHeartbeats 2000000 in
theorem kr_Tr_21 {E : AE} {l : Launch} {Q : NR} {h : AH} (h0 : ∀ c j, 21 ≤ c → h c j = 0) (hQ : Q [.inl (8, [some (some 1), some (some 4), some (some 7), some (some 12), some (some 17), some (some 19), some none]), .inl (4, [some (some 2), some (some 3), none, none]), .inr (0, 61), .inr (0, 61), .inl (1, [some (some 1), some (some 5), some (some 6), none, none]), .inr (2, 60), .inr (0, 60), .inl (2, [some (some 1), some (some 4), some (some 8), some (some 10)]), .inl (7, [some (some 9)]), .inr (1, 5), .inl (7, [some (some 11)]), .inr (1, 5), .inl (3, [some (some 1), some (some 14), some (some 13), none, none]), .inr (0, 60), .inl (1, [some (some 1), some (some 15), some (some 16), none, none]), .inr (2, 60), .inr (0, 60), .inl (5, [some (some 1), some (some 18), none, none]), .inr (0, 40), .inl (0, [some (some 1), some (some 17), some (some 20), none, none, none]), .inr (0, 780), .inl (6, [some (some 1), some (some 17), some (some 22), none, none, some (some 23), none, none]), .inr (0, 40), .inr (0, 40)] (am_up h 21 7 1)) : nm_G am_cl E l am_Gw am_ki 7 [.inl (8, [some (some 1), some (some 4), some (some 7), some (some 12), some (some 17), some (some 19), some none]), .inl (4, [some (some 2), some (some 3), none, none]), .inr (0, 61), .inr (0, 61), .inl (1, [some (some 1), some (some 5), some (some 6), none, none]), .inr (2, 60), .inr (0, 60), .inl (2, [some (some 1), some (some 4), some (some 8), some (some 10)]), .inl (7, [some (some 9)]), .inr (1, 5), .inl (7, [some (some 11)]), .inr (1, 5), .inl (3, [some (some 1), some (some 14), some (some 13), none, none]), .inr (0, 60), .inl (1, [some (some 1), some (some 15), some (some 16), none, none]), .inr (2, 60), .inr (0, 60), .inl (5, [some (some 1), some (some 18), none, none]), .inr (0, 40), .inl (0, [some (some 1), some (some 17), some (some 20), none, none, none]), .inr (0, 780), .inl (6, [some none, some none, some none, none, none, some none, none, none])] [.inr (.inr 21), .inr (.inr 1), .inr (.inr 17)] h Q := by
  refine nm_met (KT_Tr 22 1302) (by decide) rfl rfl (Nat.le_of_ble_eq_true rfl) (fun G J hG hJ => ?_)
  subst hG
  show J _ 0 [some (.inr (.inr 21)), some (.inr (.inr 1)), some (.inr (.inr 17))] [] _
  repeat (first | refine hJ _ _ _ _ _ ?_ | refine And.intro (fun j => by simp [am_up, h0]) ?_ | refine And.intro (by decide) ?_)
  refine cast (congrArg (Q _) ?_) hQ
  funext c j
  try simp only [am_up]
  try grind
set_option maxRecDepth 100000 in
set_option maxHeartbeats 2000000 in
theorem kr_De_0 {E : AE} {l : Launch} {Q : NR} {h : AH} (h0 : ∀ c j, 0 ≤ c → h c j = 0) (hQ : Q [.inl (8, [some (some 1), some (some 4), some (some 7), some (some 12), some (some 17), some (some 19), some (some 21)]), .inl (4, [some (some 2), some (some 3), none, none]), .inr (0, 61), .inr (0, 61), .inl (1, [some (some 1), some (some 5), some (some 6), none, none]), .inr (2, 60), .inr (0, 60), .inl (2, [some (some 1), some (some 4), some (some 8), some (some 10)]), .inl (7, [some (some 9)]), .inr (1, 5), .inl (7, [some (some 11)]), .inr (1, 5), .inl (3, [some (some 1), some (some 14), some (some 13), none, none]), .inr (0, 60), .inl (1, [some (some 1), some (some 15), some (some 16), none, none]), .inr (2, 60), .inr (0, 60), .inl (5, [some (some 1), some (some 18), none, none]), .inr (0, 40), .inl (0, [some (some 1), some (some 17), some (some 20), none, none, none]), .inr (0, 780), .inl (6, [some (some 1), some (some 17), some (some 22), none, none, some (some 23), none, none]), .inr (0, 40), .inr (0, 40)] (am_up h 21 7 1)) : nm_G am_cl E l am_Gw am_ki 8 [.inl (8, [some none, some none, some none, some none, some none, some none, some none])] [.inr (.inr 0)] h Q := by
  refine nm_met (KT_De 1 7) (by decide) rfl rfl (Nat.le_of_ble_eq_true rfl) (fun G J hG hJ => ?_)
  subst hG
  show J _ 0 [some (.inr (.inr 0))] [] _
  repeat (first | refine hJ _ _ _ _ _ ?_ | refine And.intro (fun j => by simp [am_up, h0]) ?_ | refine And.intro (by decide) ?_)
  refine kr_Po_1 (fun c j hc => by (try simp only [am_up]); first | exact h0 c j (by omega) | (rw [h0 c j (by omega)]; grind) | grind) ?_
  repeat (first | refine hJ _ _ _ _ _ ?_ | refine And.intro (fun j => by simp [am_up, h0]) ?_ | refine And.intro (by decide) ?_)
  refine kr_Hu_4 (fun c j hc => by (try simp only [am_up]); first | exact h0 c j (by omega) | (rw [h0 c j (by omega)]; grind) | grind) ?_
  repeat (first | refine hJ _ _ _ _ _ ?_ | refine And.intro (fun j => by simp [am_up, h0]) ?_ | refine And.intro (by decide) ?_)
  refine kr_Hs_7 (fun c j hc => by (try simp only [am_up]); first | exact h0 c j (by omega) | (rw [h0 c j (by omega)]; grind) | grind) ?_
  repeat (first | refine hJ _ _ _ _ _ ?_ | refine And.intro (fun j => by simp [am_up, h0]) ?_ | refine And.intro (by decide) ?_)
  refine kr_La_12 (fun c j hc => by (try simp only [am_up]); first | exact h0 c j (by omega) | (rw [h0 c j (by omega)]; grind) | grind) ?_
  repeat (first | refine hJ _ _ _ _ _ ?_ | refine And.intro (fun j => by simp [am_up, h0]) ?_ | refine And.intro (by decide) ?_)
  refine kr_Ro_17 (fun c j hc => by (try simp only [am_up]); first | exact h0 c j (by omega) | (rw [h0 c j (by omega)]; grind) | grind) ?_
  repeat (first | refine hJ _ _ _ _ _ ?_ | refine And.intro (fun j => by simp [am_up, h0]) ?_ | refine And.intro (by decide) ?_)
  refine kr_Cr_19 (fun c j hc => by (try simp only [am_up]); first | exact h0 c j (by omega) | (rw [h0 c j (by omega)]; grind) | grind) ?_
  repeat (first | refine hJ _ _ _ _ _ ?_ | refine And.intro (fun j => by simp [am_up, h0]) ?_ | refine And.intro (by decide) ?_)
  refine kr_Tr_21 (fun c j hc => by (try simp only [am_up]); first | exact h0 c j (by omega) | (rw [h0 c j (by omega)]; grind) | grind) ?_
  repeat (first | refine hJ _ _ _ _ _ ?_ | refine And.intro (fun j => by simp [am_up, h0]) ?_ | refine And.intro (by decide) ?_)
  refine cast (congrArg (Q _) ?_) hQ
  funext c j
  try simp only [am_up]
  try grind
set_option maxRecDepth 100000 in
set_option maxHeartbeats 2000000 in
theorem kr_Mo_24 {E : AE} {l : Launch} {Q : NR} {h : AH} (h0 : ∀ c j, 24 ≤ c → h c j = 0) (hQ : Q [.inl (8, [some (some 1), some (some 4), some (some 7), some (some 12), some (some 17), some (some 19), some (some 21)]), .inl (4, [some (some 2), some (some 3), none, none]), .inr (0, 61), .inr (0, 61), .inl (1, [some (some 1), some (some 5), some (some 6), none, none]), .inr (2, 60), .inr (0, 60), .inl (2, [some (some 1), some (some 4), some (some 8), some (some 10)]), .inl (7, [some (some 9)]), .inr (1, 5), .inl (7, [some (some 11)]), .inr (1, 5), .inl (3, [some (some 1), some (some 14), some (some 13), none, none]), .inr (0, 60), .inl (1, [some (some 1), some (some 15), some (some 16), none, none]), .inr (2, 60), .inr (0, 60), .inl (5, [some (some 1), some (some 18), none, none]), .inr (0, 40), .inl (0, [some (some 1), some (some 17), some (some 20), none, none, none]), .inr (0, 780), .inl (6, [some (some 1), some (some 17), some (some 22), none, none, some (some 23), none, none]), .inr (0, 40), .inr (0, 40), .inl (9, [none, some (some 25), some (some 26), none, some (some 27), none, some (some 28), some (some 29), none, some (some 30), some (some 31), some (some 32), some (some 33)]), .inr (0, 60), .inr (0, 60), .inr (0, 40), .inr (2, 60), .inr (0, 60), .inr (0, 60), .inr (1, 12), .inr (1, 6), .inr (2, 40)] h) : nm_G am_cl E l am_Gw am_ki 9 [.inl (8, [some (some 1), some (some 4), some (some 7), some (some 12), some (some 17), some (some 19), some (some 21)]), .inl (4, [some (some 2), some (some 3), none, none]), .inr (0, 61), .inr (0, 61), .inl (1, [some (some 1), some (some 5), some (some 6), none, none]), .inr (2, 60), .inr (0, 60), .inl (2, [some (some 1), some (some 4), some (some 8), some (some 10)]), .inl (7, [some (some 9)]), .inr (1, 5), .inl (7, [some (some 11)]), .inr (1, 5), .inl (3, [some (some 1), some (some 14), some (some 13), none, none]), .inr (0, 60), .inl (1, [some (some 1), some (some 15), some (some 16), none, none]), .inr (2, 60), .inr (0, 60), .inl (5, [some (some 1), some (some 18), none, none]), .inr (0, 40), .inl (0, [some (some 1), some (some 17), some (some 20), none, none, none]), .inr (0, 780), .inl (6, [some (some 1), some (some 17), some (some 22), none, none, some (some 23), none, none]), .inr (0, 40), .inr (0, 40), .inl (9, [none, some none, some none, none, some none, none, some none, some none, none, some none, some none, some none, some none])] [.inr (.inr 24)] h Q := by
  refine nm_met (KT_Mo 25 1395) (by decide) rfl rfl (Nat.le_of_ble_eq_true rfl) (fun G J hG hJ => ?_)
  subst hG
  show J _ 0 [some (.inr (.inr 24))] [] _
  repeat (first | refine hJ _ _ _ _ _ ?_ | refine And.intro (fun j => by simp [am_up, h0]) ?_ | refine And.intro (by decide) ?_)
  refine cast (congrArg (Q _) ?_) hQ
  funext c j
  try simp only [am_up]
  try grind
