theorem kbp_8 : (Int8.ofInt (8)).toInt32 = (8 : Int32) := by decide +kernel
theorem kbp_12 : (Int8.ofInt (12)).toInt32 = (12 : Int32) := by decide +kernel
theorem kbp_13 : (Int8.ofInt (13)).toInt32 = (13 : Int32) := by decide +kernel
theorem kbp_16 : (Int8.ofInt (16)).toInt32 = (16 : Int32) := by decide +kernel
theorem kbp_17 : (Int8.ofInt (17)).toInt32 = (17 : Int32) := by decide +kernel
theorem kbp_20 : (Int8.ofInt (20)).toInt32 = (20 : Int32) := by decide +kernel
theorem kbp_26 : (Int8.ofInt (26)).toInt32 = (26 : Int32) := by decide +kernel
theorem kbp_30 : (Int8.ofInt (30)).toInt32 = (30 : Int32) := by decide +kernel
theorem kbp_60 : (Int8.ofInt (60)).toInt32 = (60 : Int32) := by decide +kernel
theorem kbp_64 : (Int8.ofInt (64)).toInt32 = (64 : Int32) := by decide +kernel
theorem kbp_80 : (Int8.ofInt (80)).toInt32 = (80 : Int32) := by decide +kernel
theorem kbp_96 : (Int8.ofInt (96)).toInt32 = (96 : Int32) := by decide +kernel
theorem kic_0 : Int32.ofInt (0) = (0 : Int32) := by decide +kernel
theorem kic_3 : Int32.ofInt (3) = (3 : Int32) := by decide +kernel
theorem kic_4 : Int32.ofInt (4) = (4 : Int32) := by decide +kernel
theorem kic_5 : Int32.ofInt (5) = (5 : Int32) := by decide +kernel
theorem ksp_234 : (Int16.ofInt (234)).toInt32 = (234 : Int32) := by decide +kernel
theorem ksp_551 : (Int16.ofInt (551)).toInt32 = (551 : Int32) := by decide +kernel
theorem df_X0 : ∀ j, j < 3 → defaultValue (tyX0 j) = vp_V [.null, .null, .int 0] j := by
  intro j hj
  match j, hj with
  | 0, _ => rfl
  | 1, _ => rfl
  | 2, _ => rfl
  | k + 3, h => exact absurd h (by omega)
theorem df_X1 : ∀ j, j < 5 → defaultValue (tyX1 j) = vp_V [.null, .null, .null, .null, .long 0] j := by
  intro j hj
  match j, hj with
  | 0, _ => rfl
  | 1, _ => rfl
  | 2, _ => rfl
  | 3, _ => rfl
  | 4, _ => rfl
  | k + 5, h => exact absurd h (by omega)
theorem df_X2 : ∀ j, j < 12 → defaultValue (tyX2 j) = vp_V [.null, .int 0, .int 0, .int 0, .null, .null, .null, .null, .null, .null, .null, .null] j := by
  intro j hj
  match j, hj with
  | 0, _ => rfl
  | 1, _ => rfl
  | 2, _ => rfl
  | 3, _ => rfl
  | 4, _ => rfl
  | 5, _ => rfl
  | 6, _ => rfl
  | 7, _ => rfl
  | 8, _ => rfl
  | 9, _ => rfl
  | 10, _ => rfl
  | 11, _ => rfl
  | k + 12, h => exact absurd h (by omega)
theorem df_X3 : ∀ j, j < 2 → defaultValue (tyX3 j) = vp_V [.null, .int 0] j := by
  intro j hj
  match j, hj with
  | 0, _ => rfl
  | 1, _ => rfl
  | k + 2, h => exact absurd h (by omega)
theorem df_X4 : ∀ j, j < 11 → defaultValue (tyX4 j) = vp_V [.null, .null, .null, .null, .null, .null, .null, .null, .null, .int 0, .int 0] j := by
  intro j hj
  match j, hj with
  | 0, _ => rfl
  | 1, _ => rfl
  | 2, _ => rfl
  | 3, _ => rfl
  | 4, _ => rfl
  | 5, _ => rfl
  | 6, _ => rfl
  | 7, _ => rfl
  | 8, _ => rfl
  | 9, _ => rfl
  | 10, _ => rfl
  | k + 11, h => exact absurd h (by omega)
theorem df_X5 : ∀ j, j < 3 → defaultValue (tyX5 j) = vp_V [.null, .null, .int 0] j := by
  intro j hj
  match j, hj with
  | 0, _ => rfl
  | 1, _ => rfl
  | 2, _ => rfl
  | k + 3, h => exact absurd h (by omega)
theorem df_X6 : ∀ j, j < 10 → defaultValue (tyX6 j) = vp_V [.null, .null, .int 0, .int 0, .int 0, .int 0, .int 0, .int 0, .int 0, .int 0] j := by
  intro j hj
  match j, hj with
  | 0, _ => rfl
  | 1, _ => rfl
  | 2, _ => rfl
  | 3, _ => rfl
  | 4, _ => rfl
  | 5, _ => rfl
  | 6, _ => rfl
  | 7, _ => rfl
  | 8, _ => rfl
  | 9, _ => rfl
  | k + 10, h => exact absurd h (by omega)
theorem df_X7 : ∀ j, j < 5 → defaultValue (tyX7 j) = vp_V [.int 0, .int 0, .null, .int 0, .int 0] j := by
  intro j hj
  match j, hj with
  | 0, _ => rfl
  | 1, _ => rfl
  | 2, _ => rfl
  | 3, _ => rfl
  | 4, _ => rfl
  | k + 5, h => exact absurd h (by omega)
theorem df_X8 : ∀ j, j < 5 → defaultValue (tyX8 j) = vp_V [.int 0, .int 0, .null, .null, .int 0] j := by
  intro j hj
  match j, hj with
  | 0, _ => rfl
  | 1, _ => rfl
  | 2, _ => rfl
  | 3, _ => rfl
  | 4, _ => rfl
  | k + 5, h => exact absurd h (by omega)
theorem df_X9 : ∀ j, j < 15 → defaultValue (tyX9 j) = vp_V [.null, .null, .null, .null, .null, .null, .null, .int 0, .int 0, .int 0, .int 0, .int 0, .int 0, .int 0, .int 0] j := by
  intro j hj
  match j, hj with
  | 0, _ => rfl
  | 1, _ => rfl
  | 2, _ => rfl
  | 3, _ => rfl
  | 4, _ => rfl
  | 5, _ => rfl
  | 6, _ => rfl
  | 7, _ => rfl
  | 8, _ => rfl
  | 9, _ => rfl
  | 10, _ => rfl
  | 11, _ => rfl
  | 12, _ => rfl
  | 13, _ => rfl
  | 14, _ => rfl
  | k + 15, h => exact absurd h (by omega)
theorem df_X10 : ∀ j, j < 12 → defaultValue (tyX10 j) = vp_V [.null, .null, .null, .null, .null, .null, .null, .null, .null, .int 0, .int 0, .int 0] j := by
  intro j hj
  match j, hj with
  | 0, _ => rfl
  | 1, _ => rfl
  | 2, _ => rfl
  | 3, _ => rfl
  | 4, _ => rfl
  | 5, _ => rfl
  | 6, _ => rfl
  | 7, _ => rfl
  | 8, _ => rfl
  | 9, _ => rfl
  | 10, _ => rfl
  | 11, _ => rfl
  | k + 12, h => exact absurd h (by omega)
theorem df_X11 : ∀ j, j < 73 → defaultValue (tyX11 j) = vp_V [.null, .int 0, .int 0, .int 0, .int 0, .int 0, .int 0, .long 0, .int 0, .int 0, .int 0, .int 0, .int 0, .null, .null, .null, .null, .null, .null, .null, .null, .null, .null, .null, .null, .null, .null, .null, .null, .null, .null, .null, .null, .null, .null, .null, .null, .int 0, .int 0, .null, .null, .null, .null, .null, .int 0, .int 0, .null, .int 0, .int 0, .null, .null, .null, .int 0, .null, .null, .int 0, .int 0, .null, .null, .null, .int 0, .null, .int 0, .null, .int 0, .null, .null, .long 0, .int 0, .int 0, .null, .null, .int 0] j := by
  intro j hj
  match j, hj with
  | 0, _ => rfl
  | 1, _ => rfl
  | 2, _ => rfl
  | 3, _ => rfl
  | 4, _ => rfl
  | 5, _ => rfl
  | 6, _ => rfl
  | 7, _ => rfl
  | 8, _ => rfl
  | 9, _ => rfl
  | 10, _ => rfl
  | 11, _ => rfl
  | 12, _ => rfl
  | 13, _ => rfl
  | 14, _ => rfl
  | 15, _ => rfl
  | 16, _ => rfl
  | 17, _ => rfl
  | 18, _ => rfl
  | 19, _ => rfl
  | 20, _ => rfl
  | 21, _ => rfl
  | 22, _ => rfl
  | 23, _ => rfl
  | 24, _ => rfl
  | 25, _ => rfl
  | 26, _ => rfl
  | 27, _ => rfl
  | 28, _ => rfl
  | 29, _ => rfl
  | 30, _ => rfl
  | 31, _ => rfl
  | 32, _ => rfl
  | 33, _ => rfl
  | 34, _ => rfl
  | 35, _ => rfl
  | 36, _ => rfl
  | 37, _ => rfl
  | 38, _ => rfl
  | 39, _ => rfl
  | 40, _ => rfl
  | 41, _ => rfl
  | 42, _ => rfl
  | 43, _ => rfl
  | 44, _ => rfl
  | 45, _ => rfl
  | 46, _ => rfl
  | 47, _ => rfl
  | 48, _ => rfl
  | 49, _ => rfl
  | 50, _ => rfl
  | 51, _ => rfl
  | 52, _ => rfl
  | 53, _ => rfl
  | 54, _ => rfl
  | 55, _ => rfl
  | 56, _ => rfl
  | 57, _ => rfl
  | 58, _ => rfl
  | 59, _ => rfl
  | 60, _ => rfl
  | 61, _ => rfl
  | 62, _ => rfl
  | 63, _ => rfl
  | 64, _ => rfl
  | 65, _ => rfl
  | 66, _ => rfl
  | 67, _ => rfl
  | 68, _ => rfl
  | 69, _ => rfl
  | 70, _ => rfl
  | 71, _ => rfl
  | 72, _ => rfl
  | k + 73, h => exact absurd h (by omega)
abbrev kc_X8 (cA : Nat → ClassId) (q : Nat) (x1 x2 : Int32) (A B : Nat) (u : Nat → Nat) : va_W := [(q, .inr (8, [.int x1, .int x2, .ref (u 0), .ref (u 1), .int (0)])), ((u 0), .inl (cA 0, A, .inl (fun _ => 0))), ((u 1), .inl (cA 0, B, .inl (fun _ => 0)))]
set_option maxRecDepth 100000 in
set_option maxHeartbeats 4000000 in
theorem c_X8_init (l : Launch) (D : va_G) (cA : Nat → ClassId) (q : Nat) (x1 x2 : Int32) (A B : Nat) (h1 : ¬ x1 < 0) (h2 : x1.toNatClampNeg = A) (h3 : ¬ x1 * x2 < 0) (h4 : (x1 * x2).toNatClampNeg = B) (h5 : A ≤ 60000) (h6 : B ≤ 60000) : KT l yX8_init cX8_init 3 1 12 2 (A + B) D cA q (.inr (8, [.int 0, .int 0, .null, .null, .int 0])) [.int x1, .int x2] (fun _ => True) (kc_X8 cA q x1 x2 A B) := by
  refine kt_of rfl rfl (Nat.le_of_ble_eq_true rfl) (fun z hz hG C => ?_)
  subst hz
  refine ra_aload_n C 0 dX8_init_0 rfl rfl ?_
  refine ra_objI C lk_X8_3 dX8_init_1 (by decide) (Nat.le_of_ble_eq_true rfl) ?_
  refine ra_aload_n C 0 dX8_init_4 rfl rfl ?_
  refine ra_iload_n C 1 dX8_init_5 rfl rfl ?_
  refine ra_putF C (k := 0) 0 rfl fc_X8 (by decide) lk_X8_9 [(q, .inr (8, [.int x1, .int 0, .null, .null, .int 0]))] rfl rfl rfl ⟨rfl, rfl⟩ (Nat.le_of_ble_eq_true rfl) rfl dX8_init_6 ?_
  refine ra_aload_n C 0 dX8_init_9 rfl rfl ?_
  refine ra_iload_n C 2 dX8_init_10 rfl rfl ?_
  refine ra_putF C (k := 1) 0 rfl fc_X8 (by decide) lk_X8_15 [(q, .inr (8, [.int x1, .int x2, .null, .null, .int 0]))] rfl rfl rfl ⟨rfl, rfl⟩ (Nat.le_of_ble_eq_true rfl) rfl dX8_init_11 ?_
  refine ra_aload_n C 0 dX8_init_14 rfl rfl ?_
  refine ra_iload_n C 1 dX8_init_15 rfl rfl ?_
  refine ra_newI C A h1 h2 h5 (by omega) (by omega) dX8_init_16 (fun q1 => [(q, .inr (8, [.int x1, .int x2, .null, .null, .int 0])), (q1, .inl (cA 0, A, .inl (fun _ => 0)))]) (fun _ => rfl) (fun q1 => ?_)
  refine ra_putF C (k := 2) 0 rfl fc_X8 (by decide) lk_X8_18 [(q, .inr (8, [.int x1, .int x2, .ref q1, .null, .int 0])), (q1, .inl (cA 0, A, .inl (fun _ => 0)))] rfl rfl rfl ⟨rfl, rfl⟩ (Nat.le_of_ble_eq_true rfl) rfl dX8_init_18 ?_
  refine ra_aload_n C 0 dX8_init_21 rfl rfl ?_
  refine ra_iload_n C 1 dX8_init_22 rfl rfl ?_
  refine ra_iload_n C 2 dX8_init_23 rfl rfl ?_
  refine ra_imul C dX8_init_24 ?_
  refine ra_newI C B h3 h4 h6 (by omega) (by omega) dX8_init_25 (fun q2 => [(q, .inr (8, [.int x1, .int x2, .ref q1, .null, .int 0])), (q1, .inl (cA 0, A, .inl (fun _ => 0))), (q2, .inl (cA 0, B, .inl (fun _ => 0)))]) (fun _ => rfl) (fun q2 => ?_)
  refine ra_putF C (k := 3) 0 rfl fc_X8 (by decide) lk_X8_22 [(q, .inr (8, [.int x1, .int x2, .ref q1, .ref q2, .int 0])), (q1, .inl (cA 0, A, .inl (fun _ => 0))), (q2, .inl (cA 0, B, .inl (fun _ => 0)))] rfl rfl rfl ⟨rfl, rfl⟩ (Nat.le_of_ble_eq_true rfl) rfl dX8_init_27 ?_
  refine ra_aload_n C 0 dX8_init_30 rfl rfl ?_
  refine ra_iconst C dX8_init_31 kic_0 ?_
  refine ra_put C (k := 4) 0 rfl fc_X8 (by decide) lk_X8_25 [(q, .inr (8, [.int x1, .int x2, .ref q1, .ref q2, .int (0)])), (q1, .inl (cA 0, A, .inl (fun _ => 0))), (q2, .inl (cA 0, B, .inl (fun _ => 0)))] rfl ⟨rfl, rfl⟩ (Nat.le_of_ble_eq_true rfl) rfl dX8_init_32 ?_
  exact ra_vret C (fun k => [q1, q2].getD k 0) [0, 1, 2] rfl rfl (by decide) ⟨by omega, by omega⟩ dX8_init_35
abbrev kc_X7 (cA : Nat → ClassId) (q : Nat) (x1 x2 : Int32) (B : Nat) (u : Nat → Nat) : va_W := [(q, .inr (7, [.int x1, .int x2, .ref (u 0), .int (0), .int (0)])), ((u 0), .inl (cA 0, B, .inl (fun _ => 0)))]
set_option maxRecDepth 100000 in
set_option maxHeartbeats 4000000 in
theorem c_X7_init (l : Launch) (D : va_G) (cA : Nat → ClassId) (q : Nat) (x1 x2 : Int32) (B : Nat) (h3 : ¬ x1 * x2 < 0) (h4 : (x1 * x2).toNatClampNeg = B) (h6 : B ≤ 60000) : KT l yX7_init cX7_init 3 1 12 1 (B) D cA q (.inr (7, [.int 0, .int 0, .null, .int 0, .int 0])) [.int x1, .int x2] (fun _ => True) (kc_X7 cA q x1 x2 B) := by
  refine kt_of rfl rfl (Nat.le_of_ble_eq_true rfl) (fun z hz hG C => ?_)
  subst hz
  refine ra_aload_n C 0 dX7_init_0 rfl rfl ?_
  refine ra_objI C lk_X7_3 dX7_init_1 (by decide) (Nat.le_of_ble_eq_true rfl) ?_
  refine ra_aload_n C 0 dX7_init_4 rfl rfl ?_
  refine ra_iload_n C 1 dX7_init_5 rfl rfl ?_
  refine ra_putF C (k := 0) 0 rfl fc_X7 (by decide) lk_X7_9 [(q, .inr (7, [.int x1, .int 0, .null, .int 0, .int 0]))] rfl rfl rfl ⟨rfl, rfl⟩ (Nat.le_of_ble_eq_true rfl) rfl dX7_init_6 ?_
  refine ra_aload_n C 0 dX7_init_9 rfl rfl ?_
  refine ra_iload_n C 2 dX7_init_10 rfl rfl ?_
  refine ra_putF C (k := 1) 0 rfl fc_X7 (by decide) lk_X7_15 [(q, .inr (7, [.int x1, .int x2, .null, .int 0, .int 0]))] rfl rfl rfl ⟨rfl, rfl⟩ (Nat.le_of_ble_eq_true rfl) rfl dX7_init_11 ?_
  refine ra_aload_n C 0 dX7_init_14 rfl rfl ?_
  refine ra_iload_n C 1 dX7_init_15 rfl rfl ?_
  refine ra_iload_n C 2 dX7_init_16 rfl rfl ?_
  refine ra_imul C dX7_init_17 ?_
  refine ra_newI C B h3 h4 h6 (by omega) (by omega) dX7_init_18 (fun q1 => [(q, .inr (7, [.int x1, .int x2, .null, .int 0, .int 0])), (q1, .inl (cA 0, B, .inl (fun _ => 0)))]) (fun _ => rfl) (fun q1 => ?_)
  refine ra_putF C (k := 2) 0 rfl fc_X7 (by decide) lk_X7_18 [(q, .inr (7, [.int x1, .int x2, .ref q1, .int 0, .int 0])), (q1, .inl (cA 0, B, .inl (fun _ => 0)))] rfl rfl rfl ⟨rfl, rfl⟩ (Nat.le_of_ble_eq_true rfl) rfl dX7_init_20 ?_
  refine ra_aload_n C 0 dX7_init_23 rfl rfl ?_
  refine ra_iconst C dX7_init_24 kic_0 ?_
  refine ra_put C (k := 3) 0 rfl fc_X7 (by decide) lk_X7_22 [(q, .inr (7, [.int x1, .int x2, .ref q1, .int (0), .int 0])), (q1, .inl (cA 0, B, .inl (fun _ => 0)))] rfl ⟨rfl, rfl⟩ (Nat.le_of_ble_eq_true rfl) rfl dX7_init_25 ?_
  refine ra_aload_n C 0 dX7_init_28 rfl rfl ?_
  refine ra_iconst C dX7_init_29 kic_0 ?_
  refine ra_put C (k := 4) 0 rfl fc_X7 (by decide) lk_X7_25 [(q, .inr (7, [.int x1, .int x2, .ref q1, .int (0), .int (0)])), (q1, .inl (cA 0, B, .inl (fun _ => 0)))] rfl ⟨rfl, rfl⟩ (Nat.le_of_ble_eq_true rfl) rfl dX7_init_30 ?_
  exact ra_vret C (fun k => [q1].getD k 0) [0, 1] rfl rfl (by decide) ⟨by omega, by omega⟩ dX7_init_33
abbrev kc_X0 (cA : Nat → ClassId) (q : Nat) (u : Nat → Nat) : va_W := [(q, .inr (0, [.ref (u 0), .ref (u 1), .int (0)])), ((u 0), .inl (cA 0, 64, .inl (fun _ => 0))), ((u 1), .inl (cA 0, 5, .inl (fun _ => 0)))]
set_option maxRecDepth 100000 in
set_option maxHeartbeats 4000000 in
theorem c_X0_init (l : Launch) (D : va_G) (cA : Nat → ClassId) (q : Nat) : KT l yX0_init cX0_init 1 1 12 2 (64 + 5) D cA q (.inr (0, [.null, .null, .int 0])) [] (fun _ => True) (kc_X0 cA q) := by
  refine kt_of rfl rfl (Nat.le_of_ble_eq_true rfl) (fun z hz hG C => ?_)
  subst hz
  refine ra_aload_n C 0 dX0_init_0 rfl rfl ?_
  refine ra_objI C lk_X0_1 dX0_init_1 (by decide) (Nat.le_of_ble_eq_true rfl) ?_
  refine ra_aload_n C 0 dX0_init_4 rfl rfl ?_
  refine ra_bipush C dX0_init_5 kbp_64 ?_
  refine ra_newI C 64 (by decide) (by decide) (by decide) (by omega) (by omega) dX0_init_7 (fun q1 => [(q, .inr (0, [.null, .null, .int 0])), (q1, .inl (cA 0, 64, .inl (fun _ => 0)))]) (fun _ => rfl) (fun q1 => ?_)
  refine ra_putF C (k := 0) 0 rfl fc_X0 (by decide) lk_X0_9 [(q, .inr (0, [.ref q1, .null, .int 0])), (q1, .inl (cA 0, 64, .inl (fun _ => 0)))] rfl rfl rfl ⟨rfl, rfl⟩ (Nat.le_of_ble_eq_true rfl) rfl dX0_init_9 ?_
  refine ra_aload_n C 0 dX0_init_12 rfl rfl ?_
  refine ra_iconst C dX0_init_13 kic_5 ?_
  refine ra_newI C 5 (by decide) (by decide) (by decide) (by omega) (by omega) dX0_init_14 (fun q2 => [(q, .inr (0, [.ref q1, .null, .int 0])), (q1, .inl (cA 0, 64, .inl (fun _ => 0))), (q2, .inl (cA 0, 5, .inl (fun _ => 0)))]) (fun _ => rfl) (fun q2 => ?_)
  refine ra_putF C (k := 1) 0 rfl fc_X0 (by decide) lk_X0_13 [(q, .inr (0, [.ref q1, .ref q2, .int 0])), (q1, .inl (cA 0, 64, .inl (fun _ => 0))), (q2, .inl (cA 0, 5, .inl (fun _ => 0)))] rfl rfl rfl ⟨rfl, rfl⟩ (Nat.le_of_ble_eq_true rfl) rfl dX0_init_16 ?_
  refine ra_aload_n C 0 dX0_init_19 rfl rfl ?_
  refine ra_iconst C dX0_init_20 kic_0 ?_
  refine ra_put C (k := 2) 0 rfl fc_X0 (by decide) lk_X0_16 [(q, .inr (0, [.ref q1, .ref q2, .int (0)])), (q1, .inl (cA 0, 64, .inl (fun _ => 0))), (q2, .inl (cA 0, 5, .inl (fun _ => 0)))] rfl ⟨rfl, rfl⟩ (Nat.le_of_ble_eq_true rfl) rfl dX0_init_21 ?_
  exact ra_vret C (fun k => [q1, q2].getD k 0) [0, 1, 2] rfl rfl (by decide) ⟨by omega, by omega⟩ dX0_init_24
abbrev kc_X5 (cA : Nat → ClassId) (q : Nat) (r1 r2 : Nat) (u : Nat → Nat) : va_W := [(q, .inr (5, [.ref r1, .ref r2, .int (0)]))]
set_option maxRecDepth 100000 in
set_option maxHeartbeats 4000000 in
theorem c_X5_init (l : Launch) (D : va_G) (cA : Nat → ClassId) (q : Nat) (r1 r2 : Nat) : KT l yX5_init cX5_init 3 1 12 0 (0) D cA q (.inr (5, [.null, .null, .int 0])) [.ref r1, .ref r2] (fun _ => True) (kc_X5 cA q r1 r2) := by
  refine kt_of rfl rfl (Nat.le_of_ble_eq_true rfl) (fun z hz hG C => ?_)
  subst hz
  refine ra_aload_n C 0 dX5_init_0 rfl rfl ?_
  refine ra_objI C lk_X5_3 dX5_init_1 (by decide) (Nat.le_of_ble_eq_true rfl) ?_
  refine ra_aload_n C 0 dX5_init_4 rfl rfl ?_
  refine ra_aload_n C 1 dX5_init_5 rfl rfl ?_
  refine ra_putF C (k := 0) 0 rfl fc_X5 (by decide) lk_X5_9 [(q, .inr (5, [.ref r1, .null, .int 0]))] rfl rfl rfl ⟨rfl, rfl⟩ (Nat.le_of_ble_eq_true rfl) rfl dX5_init_6 ?_
  refine ra_aload_n C 0 dX5_init_9 rfl rfl ?_
  refine ra_aload_n C 2 dX5_init_10 rfl rfl ?_
  refine ra_put C (k := 1) 0 rfl fc_X5 (by decide) lk_X5_15 [(q, .inr (5, [.ref r1, .ref r2, .int 0]))] rfl ⟨rfl, rfl⟩ (Nat.le_of_ble_eq_true rfl) rfl dX5_init_11 ?_
  refine ra_aload_n C 0 dX5_init_14 rfl rfl ?_
  refine ra_iconst C dX5_init_15 kic_0 ?_
  refine ra_put C (k := 2) 0 rfl fc_X5 (by decide) lk_X5_19 [(q, .inr (5, [.ref r1, .ref r2, .int (0)]))] rfl ⟨rfl, rfl⟩ (Nat.le_of_ble_eq_true rfl) rfl dX5_init_16 ?_
  exact ra_vret C (fun _ => 0) [0] rfl rfl (by decide) ⟨by omega, by omega⟩ dX5_init_19
abbrev kc_X9 (cA : Nat → ClassId) (q : Nat) (u : Nat → Nat) : va_W := [(q, .inr (9, [.ref (u 0), .ref (u 1), .ref (u 2), .ref (u 3), .ref (u 4), .ref (u 5), .ref (u 6), .int 0, .int 0, .int 0, .int 0, .int 0, .int 0, .int 0, .int 0])), ((u 0), .inl (cA 0, 12, .inl (fun _ => 0))), ((u 1), .inl (cA 0, 12, .inl (fun _ => 0))), ((u 2), .inl (cA 0, 13, .inl (fun _ => 0))), ((u 3), .inl (cA 0, 16, .inl (fun _ => 0))), ((u 4), .inl (cA 0, 17, .inl (fun _ => 0))), ((u 5), .inl (cA 0, 8, .inl (fun _ => 0))), ((u 6), .inl (cA 0, 8, .inl (fun _ => 0)))]
set_option maxRecDepth 100000 in
set_option maxHeartbeats 4000000 in
theorem c_X9_init (l : Launch) (D : va_G) (cA : Nat → ClassId) (q : Nat) : KT l yX9_init cX9_init 1 1 12 7 (12 + 12 + 13 + 16 + 17 + 8 + 8) D cA q (.inr (9, [.null, .null, .null, .null, .null, .null, .null, .int 0, .int 0, .int 0, .int 0, .int 0, .int 0, .int 0, .int 0])) [] (fun _ => True) (kc_X9 cA q) := by
  refine kt_of rfl rfl (Nat.le_of_ble_eq_true rfl) (fun z hz hG C => ?_)
  subst hz
  refine ra_aload_n C 0 dX9_init_0 rfl rfl ?_
  refine ra_objI C lk_X9_3 dX9_init_1 (by decide) (Nat.le_of_ble_eq_true rfl) ?_
  refine ra_aload_n C 0 dX9_init_4 rfl rfl ?_
  refine ra_bipush C dX9_init_5 kbp_12 ?_
  refine ra_newI C 12 (by decide) (by decide) (by decide) (by omega) (by omega) dX9_init_7 (fun q1 => [(q, .inr (9, [.null, .null, .null, .null, .null, .null, .null, .int 0, .int 0, .int 0, .int 0, .int 0, .int 0, .int 0, .int 0])), (q1, .inl (cA 0, 12, .inl (fun _ => 0)))]) (fun _ => rfl) (fun q1 => ?_)
  refine ra_putF C (k := 0) 0 rfl fc_X9 (by decide) lk_X9_9 [(q, .inr (9, [.ref q1, .null, .null, .null, .null, .null, .null, .int 0, .int 0, .int 0, .int 0, .int 0, .int 0, .int 0, .int 0])), (q1, .inl (cA 0, 12, .inl (fun _ => 0)))] rfl rfl rfl ⟨rfl, rfl⟩ (Nat.le_of_ble_eq_true rfl) rfl dX9_init_9 ?_
  refine ra_aload_n C 0 dX9_init_12 rfl rfl ?_
  refine ra_bipush C dX9_init_13 kbp_12 ?_
  refine ra_newI C 12 (by decide) (by decide) (by decide) (by omega) (by omega) dX9_init_15 (fun q2 => [(q, .inr (9, [.ref q1, .null, .null, .null, .null, .null, .null, .int 0, .int 0, .int 0, .int 0, .int 0, .int 0, .int 0, .int 0])), (q1, .inl (cA 0, 12, .inl (fun _ => 0))), (q2, .inl (cA 0, 12, .inl (fun _ => 0)))]) (fun _ => rfl) (fun q2 => ?_)
  refine ra_putF C (k := 1) 0 rfl fc_X9 (by decide) lk_X9_15 [(q, .inr (9, [.ref q1, .ref q2, .null, .null, .null, .null, .null, .int 0, .int 0, .int 0, .int 0, .int 0, .int 0, .int 0, .int 0])), (q1, .inl (cA 0, 12, .inl (fun _ => 0))), (q2, .inl (cA 0, 12, .inl (fun _ => 0)))] rfl rfl rfl ⟨rfl, rfl⟩ (Nat.le_of_ble_eq_true rfl) rfl dX9_init_17 ?_
  refine ra_aload_n C 0 dX9_init_20 rfl rfl ?_
  refine ra_bipush C dX9_init_21 kbp_13 ?_
  refine ra_newI C 13 (by decide) (by decide) (by decide) (by omega) (by omega) dX9_init_23 (fun q3 => [(q, .inr (9, [.ref q1, .ref q2, .null, .null, .null, .null, .null, .int 0, .int 0, .int 0, .int 0, .int 0, .int 0, .int 0, .int 0])), (q1, .inl (cA 0, 12, .inl (fun _ => 0))), (q2, .inl (cA 0, 12, .inl (fun _ => 0))), (q3, .inl (cA 0, 13, .inl (fun _ => 0)))]) (fun _ => rfl) (fun q3 => ?_)
  refine ra_putF C (k := 2) 0 rfl fc_X9 (by decide) lk_X9_18 [(q, .inr (9, [.ref q1, .ref q2, .ref q3, .null, .null, .null, .null, .int 0, .int 0, .int 0, .int 0, .int 0, .int 0, .int 0, .int 0])), (q1, .inl (cA 0, 12, .inl (fun _ => 0))), (q2, .inl (cA 0, 12, .inl (fun _ => 0))), (q3, .inl (cA 0, 13, .inl (fun _ => 0)))] rfl rfl rfl ⟨rfl, rfl⟩ (Nat.le_of_ble_eq_true rfl) rfl dX9_init_25 ?_
  refine ra_aload_n C 0 dX9_init_28 rfl rfl ?_
  refine ra_bipush C dX9_init_29 kbp_16 ?_
  refine ra_newI C 16 (by decide) (by decide) (by decide) (by omega) (by omega) dX9_init_31 (fun q4 => [(q, .inr (9, [.ref q1, .ref q2, .ref q3, .null, .null, .null, .null, .int 0, .int 0, .int 0, .int 0, .int 0, .int 0, .int 0, .int 0])), (q1, .inl (cA 0, 12, .inl (fun _ => 0))), (q2, .inl (cA 0, 12, .inl (fun _ => 0))), (q3, .inl (cA 0, 13, .inl (fun _ => 0))), (q4, .inl (cA 0, 16, .inl (fun _ => 0)))]) (fun _ => rfl) (fun q4 => ?_)
  refine ra_putF C (k := 3) 0 rfl fc_X9 (by decide) lk_X9_21 [(q, .inr (9, [.ref q1, .ref q2, .ref q3, .ref q4, .null, .null, .null, .int 0, .int 0, .int 0, .int 0, .int 0, .int 0, .int 0, .int 0])), (q1, .inl (cA 0, 12, .inl (fun _ => 0))), (q2, .inl (cA 0, 12, .inl (fun _ => 0))), (q3, .inl (cA 0, 13, .inl (fun _ => 0))), (q4, .inl (cA 0, 16, .inl (fun _ => 0)))] rfl rfl rfl ⟨rfl, rfl⟩ (Nat.le_of_ble_eq_true rfl) rfl dX9_init_33 ?_
  refine ra_aload_n C 0 dX9_init_36 rfl rfl ?_
  refine ra_bipush C dX9_init_37 kbp_17 ?_
  refine ra_newI C 17 (by decide) (by decide) (by decide) (by omega) (by omega) dX9_init_39 (fun q5 => [(q, .inr (9, [.ref q1, .ref q2, .ref q3, .ref q4, .null, .null, .null, .int 0, .int 0, .int 0, .int 0, .int 0, .int 0, .int 0, .int 0])), (q1, .inl (cA 0, 12, .inl (fun _ => 0))), (q2, .inl (cA 0, 12, .inl (fun _ => 0))), (q3, .inl (cA 0, 13, .inl (fun _ => 0))), (q4, .inl (cA 0, 16, .inl (fun _ => 0))), (q5, .inl (cA 0, 17, .inl (fun _ => 0)))]) (fun _ => rfl) (fun q5 => ?_)
  refine ra_putF C (k := 4) 0 rfl fc_X9 (by decide) lk_X9_24 [(q, .inr (9, [.ref q1, .ref q2, .ref q3, .ref q4, .ref q5, .null, .null, .int 0, .int 0, .int 0, .int 0, .int 0, .int 0, .int 0, .int 0])), (q1, .inl (cA 0, 12, .inl (fun _ => 0))), (q2, .inl (cA 0, 12, .inl (fun _ => 0))), (q3, .inl (cA 0, 13, .inl (fun _ => 0))), (q4, .inl (cA 0, 16, .inl (fun _ => 0))), (q5, .inl (cA 0, 17, .inl (fun _ => 0)))] rfl rfl rfl ⟨rfl, rfl⟩ (Nat.le_of_ble_eq_true rfl) rfl dX9_init_41 ?_
  refine ra_aload_n C 0 dX9_init_44 rfl rfl ?_
  refine ra_bipush C dX9_init_45 kbp_8 ?_
  refine ra_newI C 8 (by decide) (by decide) (by decide) (by omega) (by omega) dX9_init_47 (fun q6 => [(q, .inr (9, [.ref q1, .ref q2, .ref q3, .ref q4, .ref q5, .null, .null, .int 0, .int 0, .int 0, .int 0, .int 0, .int 0, .int 0, .int 0])), (q1, .inl (cA 0, 12, .inl (fun _ => 0))), (q2, .inl (cA 0, 12, .inl (fun _ => 0))), (q3, .inl (cA 0, 13, .inl (fun _ => 0))), (q4, .inl (cA 0, 16, .inl (fun _ => 0))), (q5, .inl (cA 0, 17, .inl (fun _ => 0))), (q6, .inl (cA 0, 8, .inl (fun _ => 0)))]) (fun _ => rfl) (fun q6 => ?_)
  refine ra_putF C (k := 5) 0 rfl fc_X9 (by decide) lk_X9_27 [(q, .inr (9, [.ref q1, .ref q2, .ref q3, .ref q4, .ref q5, .ref q6, .null, .int 0, .int 0, .int 0, .int 0, .int 0, .int 0, .int 0, .int 0])), (q1, .inl (cA 0, 12, .inl (fun _ => 0))), (q2, .inl (cA 0, 12, .inl (fun _ => 0))), (q3, .inl (cA 0, 13, .inl (fun _ => 0))), (q4, .inl (cA 0, 16, .inl (fun _ => 0))), (q5, .inl (cA 0, 17, .inl (fun _ => 0))), (q6, .inl (cA 0, 8, .inl (fun _ => 0)))] rfl rfl rfl ⟨rfl, rfl⟩ (Nat.le_of_ble_eq_true rfl) rfl dX9_init_49 ?_
  refine ra_aload_n C 0 dX9_init_52 rfl rfl ?_
  refine ra_bipush C dX9_init_53 kbp_8 ?_
  refine ra_newI C 8 (by decide) (by decide) (by decide) (by omega) (by omega) dX9_init_55 (fun q7 => [(q, .inr (9, [.ref q1, .ref q2, .ref q3, .ref q4, .ref q5, .ref q6, .null, .int 0, .int 0, .int 0, .int 0, .int 0, .int 0, .int 0, .int 0])), (q1, .inl (cA 0, 12, .inl (fun _ => 0))), (q2, .inl (cA 0, 12, .inl (fun _ => 0))), (q3, .inl (cA 0, 13, .inl (fun _ => 0))), (q4, .inl (cA 0, 16, .inl (fun _ => 0))), (q5, .inl (cA 0, 17, .inl (fun _ => 0))), (q6, .inl (cA 0, 8, .inl (fun _ => 0))), (q7, .inl (cA 0, 8, .inl (fun _ => 0)))]) (fun _ => rfl) (fun q7 => ?_)
  refine ra_putF C (k := 6) 0 rfl fc_X9 (by decide) lk_X9_30 [(q, .inr (9, [.ref q1, .ref q2, .ref q3, .ref q4, .ref q5, .ref q6, .ref q7, .int 0, .int 0, .int 0, .int 0, .int 0, .int 0, .int 0, .int 0])), (q1, .inl (cA 0, 12, .inl (fun _ => 0))), (q2, .inl (cA 0, 12, .inl (fun _ => 0))), (q3, .inl (cA 0, 13, .inl (fun _ => 0))), (q4, .inl (cA 0, 16, .inl (fun _ => 0))), (q5, .inl (cA 0, 17, .inl (fun _ => 0))), (q6, .inl (cA 0, 8, .inl (fun _ => 0))), (q7, .inl (cA 0, 8, .inl (fun _ => 0)))] rfl rfl rfl ⟨rfl, rfl⟩ (Nat.le_of_ble_eq_true rfl) rfl dX9_init_57 ?_
  exact ra_vret C (fun k => [q1, q2, q3, q4, q5, q6, q7].getD k 0) [0, 1, 2, 3, 4, 5, 6, 7] rfl rfl (by decide) ⟨by omega, by omega⟩ dX9_init_60
abbrev kc_X3 (cA : Nat → ClassId) (q : Nat) (u : Nat → Nat) : va_W := [(q, .inr (3, [.ref (u 0), .int (0)])), ((u 0), .inl (cA 0, 551, .inl (fun _ => 0)))]
set_option maxRecDepth 100000 in
set_option maxHeartbeats 4000000 in
theorem c_X3_init (l : Launch) (D : va_G) (cA : Nat → ClassId) (q : Nat) : KT l yX3_init cX3_init 1 1 12 1 (551) D cA q (.inr (3, [.null, .int 0])) [] (fun _ => True) (kc_X3 cA q) := by
  refine kt_of rfl rfl (Nat.le_of_ble_eq_true rfl) (fun z hz hG C => ?_)
  subst hz
  refine ra_aload_n C 0 dX3_init_0 rfl rfl ?_
  refine ra_objI C lk_X3_5 dX3_init_1 (by decide) (Nat.le_of_ble_eq_true rfl) ?_
  refine ra_aload_n C 0 dX3_init_4 rfl rfl ?_
  refine ra_sipush C dX3_init_5 ksp_551 ?_
  refine ra_newI C 551 (by decide) (by decide) (by decide) (by omega) (by omega) dX3_init_8 (fun q1 => [(q, .inr (3, [.null, .int 0])), (q1, .inl (cA 0, 551, .inl (fun _ => 0)))]) (fun _ => rfl) (fun q1 => ?_)
  refine ra_putF C (k := 0) 0 rfl fc_X3 (by decide) lk_X3_11 [(q, .inr (3, [.ref q1, .int 0])), (q1, .inl (cA 0, 551, .inl (fun _ => 0)))] rfl rfl rfl ⟨rfl, rfl⟩ (Nat.le_of_ble_eq_true rfl) rfl dX3_init_10 ?_
  refine ra_aload_n C 0 dX3_init_13 rfl rfl ?_
  refine ra_iconst C dX3_init_14 kic_0 ?_
  refine ra_put C (k := 1) 0 rfl fc_X3 (by decide) lk_X3_15 [(q, .inr (3, [.ref q1, .int (0)])), (q1, .inl (cA 0, 551, .inl (fun _ => 0)))] rfl ⟨rfl, rfl⟩ (Nat.le_of_ble_eq_true rfl) rfl dX3_init_15 ?_
  exact ra_vret C (fun k => [q1].getD k 0) [0, 1] rfl rfl (by decide) ⟨by omega, by omega⟩ dX3_init_18
abbrev kc_X2 (cA : Nat → ClassId) (q : Nat) (r1 : Nat) (u : Nat → Nat) : va_W := [(q, .inr (2, [.ref r1, .int (0), .int (0), .int (0), .ref (u 0), .ref (u 1), .ref (u 2), .ref (u 3), .ref (u 4), .ref (u 5), .ref (u 6), .ref (u 8)])), ((u 0), .inl (cA 0, 8, .inl (fun _ => 0))), ((u 1), .inl (cA 0, 234, .inl (fun _ => 0))), ((u 2), .inl (cA 0, 30, .inl (fun _ => 0))), ((u 3), .inl (cA 0, 96, .inl (fun _ => 0))), ((u 4), .inl (cA 0, 26, .inl (fun _ => 0))), ((u 5), .inl (cA 0, 26, .inl (fun _ => 0))), ((u 6), .inr (7, [.int (80), .int (4), .ref (u 7), .int (0), .int (0)])), ((u 7), .inl (cA 0, 320, .inl (fun _ => 0))), ((u 8), .inr (0, [.ref (u 9), .ref (u 10), .int (0)])), ((u 9), .inl (cA 0, 64, .inl (fun _ => 0))), ((u 10), .inl (cA 0, 5, .inl (fun _ => 0)))]
set_option maxRecDepth 100000 in
set_option maxHeartbeats 4000000 in
theorem c_X2_init (l : Launch) (D : va_G) (cA : Nat → ClassId) (q : Nat) (r1 : Nat) : KT l yX2_init cX2_init 2 2 34 11 (8 + 234 + 30 + 96 + 26 + 26 + 5 + 320 + 3 + 64 + 5) D cA q (.inr (2, [.null, .int 0, .int 0, .int 0, .null, .null, .null, .null, .null, .null, .null, .null])) [.ref r1] (fun _ => True) (kc_X2 cA q r1) := by
  refine kt_of rfl rfl (Nat.le_of_ble_eq_true rfl) (fun z hz hG C => ?_)
  subst hz
  refine ra_aload_n C 0 dX2_init_0 rfl rfl ?_
  refine ra_objI C lk_X2_3 dX2_init_1 (by decide) (Nat.le_of_ble_eq_true rfl) ?_
  refine ra_aload_n C 0 dX2_init_4 rfl rfl ?_
  refine ra_aload_n C 1 dX2_init_5 rfl rfl ?_
  refine ra_put C (k := 0) 0 rfl fc_X2 (by decide) lk_X2_9 [(q, .inr (2, [.ref r1, .int 0, .int 0, .int 0, .null, .null, .null, .null, .null, .null, .null, .null]))] rfl ⟨rfl, rfl⟩ (Nat.le_of_ble_eq_true rfl) rfl dX2_init_6 ?_
  refine ra_aload_n C 0 dX2_init_9 rfl rfl ?_
  refine ra_iconst C dX2_init_10 kic_0 ?_
  refine ra_put C (k := 1) 0 rfl fc_X2 (by decide) lk_X2_15 [(q, .inr (2, [.ref r1, .int (0), .int 0, .int 0, .null, .null, .null, .null, .null, .null, .null, .null]))] rfl ⟨rfl, rfl⟩ (Nat.le_of_ble_eq_true rfl) rfl dX2_init_11 ?_
  refine ra_aload_n C 0 dX2_init_14 rfl rfl ?_
  refine ra_iconst C dX2_init_15 kic_0 ?_
  refine ra_put C (k := 2) 0 rfl fc_X2 (by decide) lk_X2_19 [(q, .inr (2, [.ref r1, .int (0), .int (0), .int 0, .null, .null, .null, .null, .null, .null, .null, .null]))] rfl ⟨rfl, rfl⟩ (Nat.le_of_ble_eq_true rfl) rfl dX2_init_16 ?_
  refine ra_aload_n C 0 dX2_init_19 rfl rfl ?_
  refine ra_iconst C dX2_init_20 kic_0 ?_
  refine ra_put C (k := 3) 0 rfl fc_X2 (by decide) lk_X2_22 [(q, .inr (2, [.ref r1, .int (0), .int (0), .int (0), .null, .null, .null, .null, .null, .null, .null, .null]))] rfl ⟨rfl, rfl⟩ (Nat.le_of_ble_eq_true rfl) rfl dX2_init_21 ?_
  refine ra_aload_n C 0 dX2_init_24 rfl rfl ?_
  refine ra_bipush C dX2_init_25 kbp_8 ?_
  refine ra_newI C 8 (by decide) (by decide) (by decide) (by omega) (by omega) dX2_init_27 (fun q1 => [(q, .inr (2, [.ref r1, .int (0), .int (0), .int (0), .null, .null, .null, .null, .null, .null, .null, .null])), (q1, .inl (cA 0, 8, .inl (fun _ => 0)))]) (fun _ => rfl) (fun q1 => ?_)
  refine ra_putF C (k := 4) 0 rfl fc_X2 (by decide) lk_X2_25 [(q, .inr (2, [.ref r1, .int (0), .int (0), .int (0), .ref q1, .null, .null, .null, .null, .null, .null, .null])), (q1, .inl (cA 0, 8, .inl (fun _ => 0)))] rfl rfl rfl ⟨rfl, rfl⟩ (Nat.le_of_ble_eq_true rfl) rfl dX2_init_29 ?_
  refine ra_aload_n C 0 dX2_init_32 rfl rfl ?_
  refine ra_sipush C dX2_init_33 ksp_234 ?_
  refine ra_newI C 234 (by decide) (by decide) (by decide) (by omega) (by omega) dX2_init_36 (fun q2 => [(q, .inr (2, [.ref r1, .int (0), .int (0), .int (0), .ref q1, .null, .null, .null, .null, .null, .null, .null])), (q1, .inl (cA 0, 8, .inl (fun _ => 0))), (q2, .inl (cA 0, 234, .inl (fun _ => 0)))]) (fun _ => rfl) (fun q2 => ?_)
  refine ra_putF C (k := 5) 0 rfl fc_X2 (by decide) lk_X2_29 [(q, .inr (2, [.ref r1, .int (0), .int (0), .int (0), .ref q1, .ref q2, .null, .null, .null, .null, .null, .null])), (q1, .inl (cA 0, 8, .inl (fun _ => 0))), (q2, .inl (cA 0, 234, .inl (fun _ => 0)))] rfl rfl rfl ⟨rfl, rfl⟩ (Nat.le_of_ble_eq_true rfl) rfl dX2_init_38 ?_
  refine ra_aload_n C 0 dX2_init_41 rfl rfl ?_
  refine ra_bipush C dX2_init_42 kbp_30 ?_
  refine ra_newI C 30 (by decide) (by decide) (by decide) (by omega) (by omega) dX2_init_44 (fun q3 => [(q, .inr (2, [.ref r1, .int (0), .int (0), .int (0), .ref q1, .ref q2, .null, .null, .null, .null, .null, .null])), (q1, .inl (cA 0, 8, .inl (fun _ => 0))), (q2, .inl (cA 0, 234, .inl (fun _ => 0))), (q3, .inl (cA 0, 30, .inl (fun _ => 0)))]) (fun _ => rfl) (fun q3 => ?_)
  refine ra_putF C (k := 6) 0 rfl fc_X2 (by decide) lk_X2_32 [(q, .inr (2, [.ref r1, .int (0), .int (0), .int (0), .ref q1, .ref q2, .ref q3, .null, .null, .null, .null, .null])), (q1, .inl (cA 0, 8, .inl (fun _ => 0))), (q2, .inl (cA 0, 234, .inl (fun _ => 0))), (q3, .inl (cA 0, 30, .inl (fun _ => 0)))] rfl rfl rfl ⟨rfl, rfl⟩ (Nat.le_of_ble_eq_true rfl) rfl dX2_init_46 ?_
  refine ra_aload_n C 0 dX2_init_49 rfl rfl ?_
  refine ra_bipush C dX2_init_50 kbp_96 ?_
  refine ra_newI C 96 (by decide) (by decide) (by decide) (by omega) (by omega) dX2_init_52 (fun q4 => [(q, .inr (2, [.ref r1, .int (0), .int (0), .int (0), .ref q1, .ref q2, .ref q3, .null, .null, .null, .null, .null])), (q1, .inl (cA 0, 8, .inl (fun _ => 0))), (q2, .inl (cA 0, 234, .inl (fun _ => 0))), (q3, .inl (cA 0, 30, .inl (fun _ => 0))), (q4, .inl (cA 0, 96, .inl (fun _ => 0)))]) (fun _ => rfl) (fun q4 => ?_)
  refine ra_putF C (k := 7) 0 rfl fc_X2 (by decide) lk_X2_35 [(q, .inr (2, [.ref r1, .int (0), .int (0), .int (0), .ref q1, .ref q2, .ref q3, .ref q4, .null, .null, .null, .null])), (q1, .inl (cA 0, 8, .inl (fun _ => 0))), (q2, .inl (cA 0, 234, .inl (fun _ => 0))), (q3, .inl (cA 0, 30, .inl (fun _ => 0))), (q4, .inl (cA 0, 96, .inl (fun _ => 0)))] rfl rfl rfl ⟨rfl, rfl⟩ (Nat.le_of_ble_eq_true rfl) rfl dX2_init_54 ?_
  refine ra_aload_n C 0 dX2_init_57 rfl rfl ?_
  refine ra_bipush C dX2_init_58 kbp_26 ?_
  refine ra_newI C 26 (by decide) (by decide) (by decide) (by omega) (by omega) dX2_init_60 (fun q5 => [(q, .inr (2, [.ref r1, .int (0), .int (0), .int (0), .ref q1, .ref q2, .ref q3, .ref q4, .null, .null, .null, .null])), (q1, .inl (cA 0, 8, .inl (fun _ => 0))), (q2, .inl (cA 0, 234, .inl (fun _ => 0))), (q3, .inl (cA 0, 30, .inl (fun _ => 0))), (q4, .inl (cA 0, 96, .inl (fun _ => 0))), (q5, .inl (cA 0, 26, .inl (fun _ => 0)))]) (fun _ => rfl) (fun q5 => ?_)
  refine ra_putF C (k := 8) 0 rfl fc_X2 (by decide) lk_X2_38 [(q, .inr (2, [.ref r1, .int (0), .int (0), .int (0), .ref q1, .ref q2, .ref q3, .ref q4, .ref q5, .null, .null, .null])), (q1, .inl (cA 0, 8, .inl (fun _ => 0))), (q2, .inl (cA 0, 234, .inl (fun _ => 0))), (q3, .inl (cA 0, 30, .inl (fun _ => 0))), (q4, .inl (cA 0, 96, .inl (fun _ => 0))), (q5, .inl (cA 0, 26, .inl (fun _ => 0)))] rfl rfl rfl ⟨rfl, rfl⟩ (Nat.le_of_ble_eq_true rfl) rfl dX2_init_62 ?_
  refine ra_aload_n C 0 dX2_init_65 rfl rfl ?_
  refine ra_bipush C dX2_init_66 kbp_26 ?_
  refine ra_newI C 26 (by decide) (by decide) (by decide) (by omega) (by omega) dX2_init_68 (fun q6 => [(q, .inr (2, [.ref r1, .int (0), .int (0), .int (0), .ref q1, .ref q2, .ref q3, .ref q4, .ref q5, .null, .null, .null])), (q1, .inl (cA 0, 8, .inl (fun _ => 0))), (q2, .inl (cA 0, 234, .inl (fun _ => 0))), (q3, .inl (cA 0, 30, .inl (fun _ => 0))), (q4, .inl (cA 0, 96, .inl (fun _ => 0))), (q5, .inl (cA 0, 26, .inl (fun _ => 0))), (q6, .inl (cA 0, 26, .inl (fun _ => 0)))]) (fun _ => rfl) (fun q6 => ?_)
  refine ra_putF C (k := 9) 0 rfl fc_X2 (by decide) lk_X2_41 [(q, .inr (2, [.ref r1, .int (0), .int (0), .int (0), .ref q1, .ref q2, .ref q3, .ref q4, .ref q5, .ref q6, .null, .null])), (q1, .inl (cA 0, 8, .inl (fun _ => 0))), (q2, .inl (cA 0, 234, .inl (fun _ => 0))), (q3, .inl (cA 0, 30, .inl (fun _ => 0))), (q4, .inl (cA 0, 96, .inl (fun _ => 0))), (q5, .inl (cA 0, 26, .inl (fun _ => 0))), (q6, .inl (cA 0, 26, .inl (fun _ => 0)))] rfl rfl rfl ⟨rfl, rfl⟩ (Nat.le_of_ble_eq_true rfl) rfl dX2_init_70 ?_
  refine ra_aload_n C 0 dX2_init_73 rfl rfl ?_
  refine ra_new C [.int 0, .int 0, .null, .int 0, .int 0] fc_X7 lk_X2_44 ins_X7 ini_X7 df_X7 (by omega) (by omega) dX2_init_74 (fun q7 => [(q, .inr (2, [.ref r1, .int (0), .int (0), .int (0), .ref q1, .ref q2, .ref q3, .ref q4, .ref q5, .ref q6, .null, .null])), (q1, .inl (cA 0, 8, .inl (fun _ => 0))), (q2, .inl (cA 0, 234, .inl (fun _ => 0))), (q3, .inl (cA 0, 30, .inl (fun _ => 0))), (q4, .inl (cA 0, 96, .inl (fun _ => 0))), (q5, .inl (cA 0, 26, .inl (fun _ => 0))), (q6, .inl (cA 0, 26, .inl (fun _ => 0))), (q7, .inr (7, [.int 0, .int 0, .null, .int 0, .int 0]))]) (fun _ => rfl) (fun q7 => ?_)
  refine ra_dup C dX2_init_77 rfl ?_
  refine ra_bipush C dX2_init_78 kbp_80 ?_
  refine ra_iconst C dX2_init_80 kic_4 ?_
  refine ra_ctor C (n := 2) [.int (80), .int (4)] [.ref q7, .ref q] 7 [0, 1, 2, 3, 4, 5, 6] [(q, .inr (2, [.ref r1, .int (0), .int (0), .int (0), .ref q1, .ref q2, .ref q3, .ref q4, .ref q5, .ref q6, .null, .null])), (q1, .inl (cA 0, 8, .inl (fun _ => 0))), (q2, .inl (cA 0, 234, .inl (fun _ => 0))), (q3, .inl (cA 0, 30, .inl (fun _ => 0))), (q4, .inl (cA 0, 96, .inl (fun _ => 0))), (q5, .inl (cA 0, 26, .inl (fun _ => 0))), (q6, .inl (cA 0, 26, .inl (fun _ => 0)))] (c_X7_init z.l D cA q7 (80) (4) 320 (by decide) (by decide) (by decide)) (fun _ _ _ _ _ => trivial) (fun _ _ _ _ _ _ _ => trivial) cd_X7_init im_X7_init ini_X7 lk_X2_46 ⟨rfl, by decide +kernel, by decide +kernel, by decide +kernel⟩ rfl rfl rfl (by decide) (by decide) rfl (Nat.le_of_ble_eq_true rfl) ⟨Nat.le_of_ble_eq_true rfl, Nat.le_of_ble_eq_true rfl⟩ ⟨by omega, by omega⟩ dX2_init_81 (fun u1 => [(q, .inr (2, [.ref r1, .int (0), .int (0), .int (0), .ref q1, .ref q2, .ref q3, .ref q4, .ref q5, .ref q6, .null, .null])), (q1, .inl (cA 0, 8, .inl (fun _ => 0))), (q2, .inl (cA 0, 234, .inl (fun _ => 0))), (q3, .inl (cA 0, 30, .inl (fun _ => 0))), (q4, .inl (cA 0, 96, .inl (fun _ => 0))), (q5, .inl (cA 0, 26, .inl (fun _ => 0))), (q6, .inl (cA 0, 26, .inl (fun _ => 0))), (q7, .inr (7, [.int (80), .int (4), .ref (u1 0), .int (0), .int (0)])), ((u1 0), .inl (cA 0, 320, .inl (fun _ => 0)))]) (fun _ => rfl) (fun u1 => ?_)
  refine ra_putF C (k := 10) 0 rfl fc_X2 (by decide) lk_X2_49 [(q, .inr (2, [.ref r1, .int (0), .int (0), .int (0), .ref q1, .ref q2, .ref q3, .ref q4, .ref q5, .ref q6, .ref q7, .null])), (q1, .inl (cA 0, 8, .inl (fun _ => 0))), (q2, .inl (cA 0, 234, .inl (fun _ => 0))), (q3, .inl (cA 0, 30, .inl (fun _ => 0))), (q4, .inl (cA 0, 96, .inl (fun _ => 0))), (q5, .inl (cA 0, 26, .inl (fun _ => 0))), (q6, .inl (cA 0, 26, .inl (fun _ => 0))), (q7, .inr (7, [.int (80), .int (4), .ref (u1 0), .int (0), .int (0)])), ((u1 0), .inl (cA 0, 320, .inl (fun _ => 0)))] rfl rfl rfl ⟨rfl, rfl⟩ (Nat.le_of_ble_eq_true rfl) rfl dX2_init_84 ?_
  refine ra_aload_n C 0 dX2_init_87 rfl rfl ?_
  refine ra_new C [.null, .null, .int 0] fc_X0 lk_X2_53 ins_X0 ini_X0 df_X0 (by omega) (by omega) dX2_init_88 (fun q8 => [(q, .inr (2, [.ref r1, .int (0), .int (0), .int (0), .ref q1, .ref q2, .ref q3, .ref q4, .ref q5, .ref q6, .ref q7, .null])), (q1, .inl (cA 0, 8, .inl (fun _ => 0))), (q2, .inl (cA 0, 234, .inl (fun _ => 0))), (q3, .inl (cA 0, 30, .inl (fun _ => 0))), (q4, .inl (cA 0, 96, .inl (fun _ => 0))), (q5, .inl (cA 0, 26, .inl (fun _ => 0))), (q6, .inl (cA 0, 26, .inl (fun _ => 0))), (q7, .inr (7, [.int (80), .int (4), .ref (u1 0), .int (0), .int (0)])), ((u1 0), .inl (cA 0, 320, .inl (fun _ => 0))), (q8, .inr (0, [.null, .null, .int 0]))]) (fun _ => rfl) (fun q8 => ?_)
  refine ra_dup C dX2_init_91 rfl ?_
  refine ra_ctor C (n := 0) [] [.ref q8, .ref q] 9 [0, 1, 2, 3, 4, 5, 6, 7, 8] [(q, .inr (2, [.ref r1, .int (0), .int (0), .int (0), .ref q1, .ref q2, .ref q3, .ref q4, .ref q5, .ref q6, .ref q7, .null])), (q1, .inl (cA 0, 8, .inl (fun _ => 0))), (q2, .inl (cA 0, 234, .inl (fun _ => 0))), (q3, .inl (cA 0, 30, .inl (fun _ => 0))), (q4, .inl (cA 0, 96, .inl (fun _ => 0))), (q5, .inl (cA 0, 26, .inl (fun _ => 0))), (q6, .inl (cA 0, 26, .inl (fun _ => 0))), (q7, .inr (7, [.int (80), .int (4), .ref (u1 0), .int (0), .int (0)])), ((u1 0), .inl (cA 0, 320, .inl (fun _ => 0)))] (c_X0_init z.l D cA q8) (fun _ _ _ _ _ => trivial) (fun _ _ _ _ _ _ _ => trivial) cd_X0_init im_X0_init ini_X0 lk_X2_55 ⟨rfl, by decide +kernel, by decide +kernel, by decide +kernel⟩ rfl rfl rfl (by decide) (by decide) rfl (Nat.le_of_ble_eq_true rfl) ⟨Nat.le_of_ble_eq_true rfl, Nat.le_of_ble_eq_true rfl⟩ ⟨by omega, by omega⟩ dX2_init_92 (fun u2 => [(q, .inr (2, [.ref r1, .int (0), .int (0), .int (0), .ref q1, .ref q2, .ref q3, .ref q4, .ref q5, .ref q6, .ref q7, .null])), (q1, .inl (cA 0, 8, .inl (fun _ => 0))), (q2, .inl (cA 0, 234, .inl (fun _ => 0))), (q3, .inl (cA 0, 30, .inl (fun _ => 0))), (q4, .inl (cA 0, 96, .inl (fun _ => 0))), (q5, .inl (cA 0, 26, .inl (fun _ => 0))), (q6, .inl (cA 0, 26, .inl (fun _ => 0))), (q7, .inr (7, [.int (80), .int (4), .ref (u1 0), .int (0), .int (0)])), ((u1 0), .inl (cA 0, 320, .inl (fun _ => 0))), (q8, .inr (0, [.ref (u2 0), .ref (u2 1), .int (0)])), ((u2 0), .inl (cA 0, 64, .inl (fun _ => 0))), ((u2 1), .inl (cA 0, 5, .inl (fun _ => 0)))]) (fun _ => rfl) (fun u2 => ?_)
  refine ra_putF C (k := 11) 0 rfl fc_X2 (by decide) lk_X2_56 [(q, .inr (2, [.ref r1, .int (0), .int (0), .int (0), .ref q1, .ref q2, .ref q3, .ref q4, .ref q5, .ref q6, .ref q7, .ref q8])), (q1, .inl (cA 0, 8, .inl (fun _ => 0))), (q2, .inl (cA 0, 234, .inl (fun _ => 0))), (q3, .inl (cA 0, 30, .inl (fun _ => 0))), (q4, .inl (cA 0, 96, .inl (fun _ => 0))), (q5, .inl (cA 0, 26, .inl (fun _ => 0))), (q6, .inl (cA 0, 26, .inl (fun _ => 0))), (q7, .inr (7, [.int (80), .int (4), .ref (u1 0), .int (0), .int (0)])), ((u1 0), .inl (cA 0, 320, .inl (fun _ => 0))), (q8, .inr (0, [.ref (u2 0), .ref (u2 1), .int (0)])), ((u2 0), .inl (cA 0, 64, .inl (fun _ => 0))), ((u2 1), .inl (cA 0, 5, .inl (fun _ => 0)))] rfl rfl rfl ⟨rfl, rfl⟩ (Nat.le_of_ble_eq_true rfl) rfl dX2_init_95 ?_
  exact ra_vret C (fun k => [q1, q2, q3, q4, q5, q6, q7, (u1 0), q8, (u2 0), (u2 1)].getD k 0) [0, 1, 2, 3, 4, 5, 6, 7, 8, 9, 10, 11] rfl rfl (by decide) ⟨by omega, by omega⟩ dX2_init_98
abbrev kc_X1 (cA : Nat → ClassId) (q : Nat) (r1 r2 : Nat) (u : Nat → Nat) : va_W := [(q, .inr (1, [.ref r1, .ref r2, .ref (u 0), .ref (u 2), .long 1])), ((u 0), .inr (7, [.int (60), .int (5), .ref (u 1), .int (0), .int (0)])), ((u 1), .inl (cA 0, 300, .inl (fun _ => 0))), ((u 2), .inr (8, [.int (20), .int (3), .ref (u 3), .ref (u 4), .int (0)])), ((u 3), .inl (cA 0, 20, .inl (fun _ => 0))), ((u 4), .inl (cA 0, 60, .inl (fun _ => 0)))]
set_option maxRecDepth 100000 in
set_option maxHeartbeats 4000000 in
theorem c_X1_init (l : Launch) (D : va_G) (cA : Nat → ClassId) (q : Nat) (r1 r2 : Nat) : KT l yX1_init cX1_init 3 2 34 5 (5 + 300 + 5 + 20 + 60) D cA q (.inr (1, [.null, .null, .null, .null, .long 0])) [.ref r1, .ref r2] (fun _ => True) (kc_X1 cA q r1 r2) := by
  refine kt_of rfl rfl (Nat.le_of_ble_eq_true rfl) (fun z hz hG C => ?_)
  subst hz
  refine ra_aload_n C 0 dX1_init_0 rfl rfl ?_
  refine ra_objI C lk_X1_3 dX1_init_1 (by decide) (Nat.le_of_ble_eq_true rfl) ?_
  refine ra_aload_n C 0 dX1_init_4 rfl rfl ?_
  refine ra_aload_n C 1 dX1_init_5 rfl rfl ?_
  refine ra_putF C (k := 0) 0 rfl fc_X1 (by decide) lk_X1_9 [(q, .inr (1, [.ref r1, .null, .null, .null, .long 0]))] rfl rfl rfl ⟨rfl, rfl⟩ (Nat.le_of_ble_eq_true rfl) rfl dX1_init_6 ?_
  refine ra_aload_n C 0 dX1_init_9 rfl rfl ?_
  refine ra_aload_n C 2 dX1_init_10 rfl rfl ?_
  refine ra_putF C (k := 1) 0 rfl fc_X1 (by decide) lk_X1_15 [(q, .inr (1, [.ref r1, .ref r2, .null, .null, .long 0]))] rfl rfl rfl ⟨rfl, rfl⟩ (Nat.le_of_ble_eq_true rfl) rfl dX1_init_11 ?_
  refine ra_aload_n C 0 dX1_init_14 rfl rfl ?_
  refine ra_new C [.int 0, .int 0, .null, .int 0, .int 0] fc_X7 lk_X1_19 ins_X7 ini_X7 df_X7 (by omega) (by omega) dX1_init_15 (fun q1 => [(q, .inr (1, [.ref r1, .ref r2, .null, .null, .long 0])), (q1, .inr (7, [.int 0, .int 0, .null, .int 0, .int 0]))]) (fun _ => rfl) (fun q1 => ?_)
  refine ra_dup C dX1_init_18 rfl ?_
  refine ra_bipush C dX1_init_19 kbp_60 ?_
  refine ra_iconst C dX1_init_21 kic_5 ?_
  refine ra_ctor C (n := 2) [.int (60), .int (5)] [.ref q1, .ref q] 1 [0] [(q, .inr (1, [.ref r1, .ref r2, .null, .null, .long 0]))] (c_X7_init z.l D cA q1 (60) (5) 300 (by decide) (by decide) (by decide)) (fun _ _ _ _ _ => trivial) (fun _ _ _ _ _ _ _ => trivial) cd_X7_init im_X7_init ini_X7 lk_X1_21 ⟨rfl, by decide +kernel, by decide +kernel, by decide +kernel⟩ rfl rfl rfl (by decide) (by decide) rfl (Nat.le_of_ble_eq_true rfl) ⟨Nat.le_of_ble_eq_true rfl, Nat.le_of_ble_eq_true rfl⟩ ⟨by omega, by omega⟩ dX1_init_22 (fun u1 => [(q, .inr (1, [.ref r1, .ref r2, .null, .null, .long 0])), (q1, .inr (7, [.int (60), .int (5), .ref (u1 0), .int (0), .int (0)])), ((u1 0), .inl (cA 0, 300, .inl (fun _ => 0)))]) (fun _ => rfl) (fun u1 => ?_)
  refine ra_putF C (k := 2) 0 rfl fc_X1 (by decide) lk_X1_24 [(q, .inr (1, [.ref r1, .ref r2, .ref q1, .null, .long 0])), (q1, .inr (7, [.int (60), .int (5), .ref (u1 0), .int (0), .int (0)])), ((u1 0), .inl (cA 0, 300, .inl (fun _ => 0)))] rfl rfl rfl ⟨rfl, rfl⟩ (Nat.le_of_ble_eq_true rfl) rfl dX1_init_25 ?_
  refine ra_aload_n C 0 dX1_init_28 rfl rfl ?_
  refine ra_new C [.int 0, .int 0, .null, .null, .int 0] fc_X8 lk_X1_28 ins_X8 ini_X8 df_X8 (by omega) (by omega) dX1_init_29 (fun q2 => [(q, .inr (1, [.ref r1, .ref r2, .ref q1, .null, .long 0])), (q1, .inr (7, [.int (60), .int (5), .ref (u1 0), .int (0), .int (0)])), ((u1 0), .inl (cA 0, 300, .inl (fun _ => 0))), (q2, .inr (8, [.int 0, .int 0, .null, .null, .int 0]))]) (fun _ => rfl) (fun q2 => ?_)
  refine ra_dup C dX1_init_32 rfl ?_
  refine ra_bipush C dX1_init_33 kbp_20 ?_
  refine ra_iconst C dX1_init_35 kic_3 ?_
  refine ra_ctor C (n := 2) [.int (20), .int (3)] [.ref q2, .ref q] 3 [0, 1, 2] [(q, .inr (1, [.ref r1, .ref r2, .ref q1, .null, .long 0])), (q1, .inr (7, [.int (60), .int (5), .ref (u1 0), .int (0), .int (0)])), ((u1 0), .inl (cA 0, 300, .inl (fun _ => 0)))] (c_X8_init z.l D cA q2 (20) (3) 20 60 (by decide) (by decide) (by decide) (by decide) (by decide) (by decide)) (fun _ _ _ _ _ => trivial) (fun _ _ _ _ _ _ _ => trivial) cd_X8_init im_X8_init ini_X8 lk_X1_30 ⟨rfl, by decide +kernel, by decide +kernel, by decide +kernel⟩ rfl rfl rfl (by decide) (by decide) rfl (Nat.le_of_ble_eq_true rfl) ⟨Nat.le_of_ble_eq_true rfl, Nat.le_of_ble_eq_true rfl⟩ ⟨by omega, by omega⟩ dX1_init_36 (fun u2 => [(q, .inr (1, [.ref r1, .ref r2, .ref q1, .null, .long 0])), (q1, .inr (7, [.int (60), .int (5), .ref (u1 0), .int (0), .int (0)])), ((u1 0), .inl (cA 0, 300, .inl (fun _ => 0))), (q2, .inr (8, [.int (20), .int (3), .ref (u2 0), .ref (u2 1), .int (0)])), ((u2 0), .inl (cA 0, 20, .inl (fun _ => 0))), ((u2 1), .inl (cA 0, 60, .inl (fun _ => 0)))]) (fun _ => rfl) (fun u2 => ?_)
  refine ra_putF C (k := 3) 0 rfl fc_X1 (by decide) lk_X1_31 [(q, .inr (1, [.ref r1, .ref r2, .ref q1, .ref q2, .long 0])), (q1, .inr (7, [.int (60), .int (5), .ref (u1 0), .int (0), .int (0)])), ((u1 0), .inl (cA 0, 300, .inl (fun _ => 0))), (q2, .inr (8, [.int (20), .int (3), .ref (u2 0), .ref (u2 1), .int (0)])), ((u2 0), .inl (cA 0, 20, .inl (fun _ => 0))), ((u2 1), .inl (cA 0, 60, .inl (fun _ => 0)))] rfl rfl rfl ⟨rfl, rfl⟩ (Nat.le_of_ble_eq_true rfl) rfl dX1_init_39 ?_
  refine ra_aload_n C 0 dX1_init_42 rfl rfl ?_
  refine ra_lconst C dX1_init_43 lc_1 ?_
  refine ra_put C (k := 4) 0 rfl fc_X1 (by decide) lk_X1_35 [(q, .inr (1, [.ref r1, .ref r2, .ref q1, .ref q2, .long 1])), (q1, .inr (7, [.int (60), .int (5), .ref (u1 0), .int (0), .int (0)])), ((u1 0), .inl (cA 0, 300, .inl (fun _ => 0))), (q2, .inr (8, [.int (20), .int (3), .ref (u2 0), .ref (u2 1), .int (0)])), ((u2 0), .inl (cA 0, 20, .inl (fun _ => 0))), ((u2 1), .inl (cA 0, 60, .inl (fun _ => 0)))] rfl ⟨rfl, rfl⟩ (Nat.le_of_ble_eq_true rfl) rfl dX1_init_44 ?_
  exact ra_vret C (fun k => [q1, (u1 0), q2, (u2 0), (u2 1)].getD k 0) [0, 1, 2, 3, 4, 5] rfl rfl (by decide) ⟨by omega, by omega⟩ dX1_init_47
