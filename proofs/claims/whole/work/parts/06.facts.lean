def shX : List Sh := [.inr (10, [4, 5, 6, 8, 9, 21, 27, 35, 2, 0, 0, 0]), .inl (0, 1600), .inl (0, 6), .inr (6, [4, 7, 0, 0, 0, 0, 0, 0, 0, 0]), .inl (0, 23), .inr (5, [6, 2, 0]), .inr (2, [2, 0, 0, 0, 10, 11, 12, 13, 14, 15, 16, 18]), .inl (0, 8), .inl (0, 234), .inl (0, 30), .inl (0, 96), .inl (0, 26), .inl (0, 26), .inr (7, [0, 0, 17, 0, 0]), .inl (0, 320), .inr (0, [19, 20, 0]), .inl (0, 64), .inl (0, 5), .inr (1, [9, 27, 22, 24, 1]), .inr (7, [0, 0, 23, 0, 0]), .inl (0, 300), .inr (8, [0, 0, 25, 26, 0]), .inl (0, 20), .inl (0, 60), .inr (9, [28, 29, 30, 31, 32, 33, 34, 0, 0, 0, 0, 0, 0, 0, 0]), .inl (0, 12), .inl (0, 12), .inl (0, 13), .inl (0, 16), .inl (0, 17), .inl (0, 8), .inl (0, 8), .inr (3, [36, 0]), .inl (0, 551), .inr (4, [38, 41, 44, 47, 50, 53, 54, 55, 56, 0, 0]), .inr (8, [0, 0, 39, 40, 0]), .inl (0, 8), .inl (0, 24), .inr (8, [0, 0, 42, 43, 0]), .inl (0, 12), .inl (0, 24), .inr (8, [0, 0, 45, 46, 0]), .inl (0, 6), .inl (0, 12), .inr (8, [0, 0, 48, 49, 0]), .inl (0, 8), .inl (0, 24), .inr (8, [0, 0, 51, 52, 0]), .inl (0, 4), .inl (0, 4), .inl (0, 26), .inl (0, 26), .inl (0, 8), .inl (0, 1600), .inr (4, [58, 61, 64, 67, 70, 73, 74, 75, 76, 0, 0]), .inr (8, [0, 0, 59, 60, 0]), .inl (0, 8), .inl (0, 24), .inr (8, [0, 0, 62, 63, 0]), .inl (0, 12), .inl (0, 24), .inr (8, [0, 0, 65, 66, 0]), .inl (0, 6), .inl (0, 12), .inr (8, [0, 0, 68, 69, 0]), .inl (0, 8), .inl (0, 24), .inr (8, [0, 0, 71, 72, 0]), .inl (0, 4), .inl (0, 4), .inl (0, 26), .inl (0, 26), .inl (0, 8), .inl (0, 1600)]
def shM : List Sh := [.inr (11, [4, 0, 0, 0, 0, 0, 0, 1, 0, 0, 0, 0, 0, 5, 6, 7, 8, 9, 10, 11, 12, 13, 14, 15, 16, 17, 18, 19, 20, 21, 22, 23, 24, 25, 26, 27, 28, 0, 0, 29, 30, 31, 32, 33, 0, 0, 34, 0, 0, 35, 36, 37, 0, 38, 39, 0, 0, 40, 41, 42, 0, 43, 0, 44, 0, 45, 46, 1, 0, 0, 47, 48, 0]), .inl (0, 1800), .inl (0, 52), .inl (0, 2), .inl (1, 16), .inl (0, 16), .inl (0, 16), .inl (0, 16), .inl (0, 16), .inl (0, 2), .inl (1, 24), .inl (0, 24), .inl (0, 52), .inl (0, 2), .inl (0, 12), .inl (0, 12), .inl (0, 2), .inl (0, 16), .inl (0, 16), .inl (0, 16), .inl (0, 2), .inl (1, 8), .inl (0, 8), .inl (0, 2), .inl (0, 3200), .inl (0, 3200), .inl (0, 20), .inl (0, 20), .inl (2, 20), .inl (0, 20), .inl (0, 20), .inl (0, 500), .inl (0, 6), .inl (1, 1650), .inl (0, 10), .inl (0, 8), .inl (0, 234), .inl (0, 20), .inl (0, 20), .inl (0, 20), .inl (0, 30), .inl (0, 300), .inl (0, 320), .inl (0, 96), .inl (0, 256), .inl (0, 600)]
theorem sx_0 : shX[0]? = some (.inr (10, [4, 5, 6, 8, 9, 21, 27, 35, 2, 0, 0, 0])) := rfl
theorem sx_1 : shX[1]? = some (.inl (0, 1600)) := rfl
theorem sx_2 : shX[2]? = some (.inl (0, 6)) := rfl
theorem sx_3 : shX[3]? = some (.inr (6, [4, 7, 0, 0, 0, 0, 0, 0, 0, 0])) := rfl
theorem sx_4 : shX[4]? = some (.inl (0, 23)) := rfl
theorem sx_5 : shX[5]? = some (.inr (5, [6, 2, 0])) := rfl
theorem sx_6 : shX[6]? = some (.inr (2, [2, 0, 0, 0, 10, 11, 12, 13, 14, 15, 16, 18])) := rfl
theorem sx_7 : shX[7]? = some (.inl (0, 8)) := rfl
theorem sx_8 : shX[8]? = some (.inl (0, 234)) := rfl
theorem sx_9 : shX[9]? = some (.inl (0, 30)) := rfl
theorem sx_10 : shX[10]? = some (.inl (0, 96)) := rfl
theorem sx_11 : shX[11]? = some (.inl (0, 26)) := rfl
theorem sx_12 : shX[12]? = some (.inl (0, 26)) := rfl
theorem sx_13 : shX[13]? = some (.inr (7, [0, 0, 17, 0, 0])) := rfl
theorem sx_14 : shX[14]? = some (.inl (0, 320)) := rfl
theorem sx_15 : shX[15]? = some (.inr (0, [19, 20, 0])) := rfl
theorem sx_16 : shX[16]? = some (.inl (0, 64)) := rfl
theorem sx_17 : shX[17]? = some (.inl (0, 5)) := rfl
theorem sx_18 : shX[18]? = some (.inr (1, [9, 27, 22, 24, 1])) := rfl
theorem sx_19 : shX[19]? = some (.inr (7, [0, 0, 23, 0, 0])) := rfl
theorem sx_20 : shX[20]? = some (.inl (0, 300)) := rfl
theorem sx_21 : shX[21]? = some (.inr (8, [0, 0, 25, 26, 0])) := rfl
theorem sx_22 : shX[22]? = some (.inl (0, 20)) := rfl
theorem sx_23 : shX[23]? = some (.inl (0, 60)) := rfl
theorem sx_24 : shX[24]? = some (.inr (9, [28, 29, 30, 31, 32, 33, 34, 0, 0, 0, 0, 0, 0, 0, 0])) := rfl
theorem sx_25 : shX[25]? = some (.inl (0, 12)) := rfl
theorem sx_26 : shX[26]? = some (.inl (0, 12)) := rfl
theorem sx_27 : shX[27]? = some (.inl (0, 13)) := rfl
theorem sx_28 : shX[28]? = some (.inl (0, 16)) := rfl
theorem sx_29 : shX[29]? = some (.inl (0, 17)) := rfl
theorem sx_30 : shX[30]? = some (.inl (0, 8)) := rfl
theorem sx_31 : shX[31]? = some (.inl (0, 8)) := rfl
theorem sx_32 : shX[32]? = some (.inr (3, [36, 0])) := rfl
theorem sx_33 : shX[33]? = some (.inl (0, 551)) := rfl
theorem sx_34 : shX[34]? = some (.inr (4, [38, 41, 44, 47, 50, 53, 54, 55, 56, 0, 0])) := rfl
theorem sx_35 : shX[35]? = some (.inr (8, [0, 0, 39, 40, 0])) := rfl
theorem sx_36 : shX[36]? = some (.inl (0, 8)) := rfl
theorem sx_37 : shX[37]? = some (.inl (0, 24)) := rfl
theorem sx_38 : shX[38]? = some (.inr (8, [0, 0, 42, 43, 0])) := rfl
theorem sx_39 : shX[39]? = some (.inl (0, 12)) := rfl
theorem sx_40 : shX[40]? = some (.inl (0, 24)) := rfl
theorem sx_41 : shX[41]? = some (.inr (8, [0, 0, 45, 46, 0])) := rfl
theorem sx_42 : shX[42]? = some (.inl (0, 6)) := rfl
theorem sx_43 : shX[43]? = some (.inl (0, 12)) := rfl
theorem sx_44 : shX[44]? = some (.inr (8, [0, 0, 48, 49, 0])) := rfl
theorem sx_45 : shX[45]? = some (.inl (0, 8)) := rfl
theorem sx_46 : shX[46]? = some (.inl (0, 24)) := rfl
theorem sx_47 : shX[47]? = some (.inr (8, [0, 0, 51, 52, 0])) := rfl
theorem sx_48 : shX[48]? = some (.inl (0, 4)) := rfl
theorem sx_49 : shX[49]? = some (.inl (0, 4)) := rfl
theorem sx_50 : shX[50]? = some (.inl (0, 26)) := rfl
theorem sx_51 : shX[51]? = some (.inl (0, 26)) := rfl
theorem sx_52 : shX[52]? = some (.inl (0, 8)) := rfl
theorem sx_53 : shX[53]? = some (.inl (0, 1600)) := rfl
theorem sx_54 : shX[54]? = some (.inr (4, [58, 61, 64, 67, 70, 73, 74, 75, 76, 0, 0])) := rfl
theorem sx_55 : shX[55]? = some (.inr (8, [0, 0, 59, 60, 0])) := rfl
theorem sx_56 : shX[56]? = some (.inl (0, 8)) := rfl
theorem sx_57 : shX[57]? = some (.inl (0, 24)) := rfl
theorem sx_58 : shX[58]? = some (.inr (8, [0, 0, 62, 63, 0])) := rfl
theorem sx_59 : shX[59]? = some (.inl (0, 12)) := rfl
theorem sx_60 : shX[60]? = some (.inl (0, 24)) := rfl
theorem sx_61 : shX[61]? = some (.inr (8, [0, 0, 65, 66, 0])) := rfl
theorem sx_62 : shX[62]? = some (.inl (0, 6)) := rfl
theorem sx_63 : shX[63]? = some (.inl (0, 12)) := rfl
theorem sx_64 : shX[64]? = some (.inr (8, [0, 0, 68, 69, 0])) := rfl
theorem sx_65 : shX[65]? = some (.inl (0, 8)) := rfl
theorem sx_66 : shX[66]? = some (.inl (0, 24)) := rfl
theorem sx_67 : shX[67]? = some (.inr (8, [0, 0, 71, 72, 0])) := rfl
theorem sx_68 : shX[68]? = some (.inl (0, 4)) := rfl
theorem sx_69 : shX[69]? = some (.inl (0, 4)) := rfl
theorem sx_70 : shX[70]? = some (.inl (0, 26)) := rfl
theorem sx_71 : shX[71]? = some (.inl (0, 26)) := rfl
theorem sx_72 : shX[72]? = some (.inl (0, 8)) := rfl
theorem sx_73 : shX[73]? = some (.inl (0, 1600)) := rfl
theorem sm_0 : shM[0]? = some (.inr (11, [4, 0, 0, 0, 0, 0, 0, 1, 0, 0, 0, 0, 0, 5, 6, 7, 8, 9, 10, 11, 12, 13, 14, 15, 16, 17, 18, 19, 20, 21, 22, 23, 24, 25, 26, 27, 28, 0, 0, 29, 30, 31, 32, 33, 0, 0, 34, 0, 0, 35, 36, 37, 0, 38, 39, 0, 0, 40, 41, 42, 0, 43, 0, 44, 0, 45, 46, 1, 0, 0, 47, 48, 0])) := rfl
theorem sm_1 : shM[1]? = some (.inl (0, 1800)) := rfl
theorem sm_2 : shM[2]? = some (.inl (0, 52)) := rfl
theorem sm_3 : shM[3]? = some (.inl (0, 2)) := rfl
theorem sm_4 : shM[4]? = some (.inl (1, 16)) := rfl
theorem sm_5 : shM[5]? = some (.inl (0, 16)) := rfl
theorem sm_6 : shM[6]? = some (.inl (0, 16)) := rfl
theorem sm_7 : shM[7]? = some (.inl (0, 16)) := rfl
theorem sm_8 : shM[8]? = some (.inl (0, 16)) := rfl
theorem sm_9 : shM[9]? = some (.inl (0, 2)) := rfl
theorem sm_10 : shM[10]? = some (.inl (1, 24)) := rfl
theorem sm_11 : shM[11]? = some (.inl (0, 24)) := rfl
theorem sm_12 : shM[12]? = some (.inl (0, 52)) := rfl
theorem sm_13 : shM[13]? = some (.inl (0, 2)) := rfl
theorem sm_14 : shM[14]? = some (.inl (0, 12)) := rfl
theorem sm_15 : shM[15]? = some (.inl (0, 12)) := rfl
theorem sm_16 : shM[16]? = some (.inl (0, 2)) := rfl
theorem sm_17 : shM[17]? = some (.inl (0, 16)) := rfl
theorem sm_18 : shM[18]? = some (.inl (0, 16)) := rfl
theorem sm_19 : shM[19]? = some (.inl (0, 16)) := rfl
theorem sm_20 : shM[20]? = some (.inl (0, 2)) := rfl
theorem sm_21 : shM[21]? = some (.inl (1, 8)) := rfl
theorem sm_22 : shM[22]? = some (.inl (0, 8)) := rfl
theorem sm_23 : shM[23]? = some (.inl (0, 2)) := rfl
theorem sm_24 : shM[24]? = some (.inl (0, 3200)) := rfl
theorem sm_25 : shM[25]? = some (.inl (0, 3200)) := rfl
theorem sm_26 : shM[26]? = some (.inl (0, 20)) := rfl
theorem sm_27 : shM[27]? = some (.inl (0, 20)) := rfl
theorem sm_28 : shM[28]? = some (.inl (2, 20)) := rfl
theorem sm_29 : shM[29]? = some (.inl (0, 20)) := rfl
theorem sm_30 : shM[30]? = some (.inl (0, 20)) := rfl
theorem sm_31 : shM[31]? = some (.inl (0, 500)) := rfl
theorem sm_32 : shM[32]? = some (.inl (0, 6)) := rfl
theorem sm_33 : shM[33]? = some (.inl (1, 1650)) := rfl
theorem sm_34 : shM[34]? = some (.inl (0, 10)) := rfl
theorem sm_35 : shM[35]? = some (.inl (0, 8)) := rfl
theorem sm_36 : shM[36]? = some (.inl (0, 234)) := rfl
theorem sm_37 : shM[37]? = some (.inl (0, 20)) := rfl
theorem sm_38 : shM[38]? = some (.inl (0, 20)) := rfl
theorem sm_39 : shM[39]? = some (.inl (0, 20)) := rfl
theorem sm_40 : shM[40]? = some (.inl (0, 30)) := rfl
theorem sm_41 : shM[41]? = some (.inl (0, 300)) := rfl
theorem sm_42 : shM[42]? = some (.inl (0, 320)) := rfl
theorem sm_43 : shM[43]? = some (.inl (0, 96)) := rfl
theorem sm_44 : shM[44]? = some (.inl (0, 256)) := rfl
theorem sm_45 : shM[45]? = some (.inl (0, 600)) := rfl
def lnX (o : Nat) : Nat := match shX[o]? with
  | some (.inl q) => q.2
  | _ => 0
def landB (o : Nat) : Bool := decide (o = 34) || decide (o = 54)
def isLand (o : Nat) : Prop := o = 34 ∨ o = 54
def isRing (o : Nat) : Prop := o = 13 ∨ o = 19
def isRoll (o : Nat) : Prop := o ∈ [21, 35, 38, 41, 44, 47, 55, 58, 61, 64, 67]
def arI (o : Nat) : Prop := shX[o]? = some (.inl (0, lnX o))
theorem landB_is {o : Nat} (h : landB o = true) : isLand o := by
  simp only [landB, Bool.or_eq_true, decide_eq_true_eq] at h
  exact h
theorem ld_sh {o : Nat} (h : isLand o) : shX[o]? = some (.inr (4, [o + 1 + 3, o + 4 + 3, o + 7 + 3, o + 10 + 3, o + 13 + 3, o + 16 + 3, o + 17 + 3, o + 18 + 3, o + 19 + 3, 0, 0])) := by
  rcases h with rfl | rfl <;> rfl
theorem ri_sh {o : Nat} (h : isRing o) : shX[o]? = some (.inr (7, [0, 0, o + 1 + 3, 0, 0])) := by
  rcases h with rfl | rfl <;> rfl
theorem ro_sh {o : Nat} (h : isRoll o) : shX[o]? = some (.inr (8, [0, 0, o + 1 + 3, o + 2 + 3, 0])) := by
  simp only [isRoll, List.mem_cons, List.not_mem_nil, or_false] at h
  rcases h with rfl | rfl | rfl | rfl | rfl | rfl | rfl | rfl | rfl | rfl | rfl <;> rfl
theorem ro_1 {o : Nat} (h : isRoll o) : arI (o + 1) := by
  simp only [isRoll, List.mem_cons, List.not_mem_nil, or_false] at h
  rcases h with rfl | rfl | rfl | rfl | rfl | rfl | rfl | rfl | rfl | rfl | rfl <;> rfl
theorem ro_2 {o : Nat} (h : isRoll o) : arI (o + 2) := by
  simp only [isRoll, List.mem_cons, List.not_mem_nil, or_false] at h
  rcases h with rfl | rfl | rfl | rfl | rfl | rfl | rfl | rfl | rfl | rfl | rfl <;> rfl
theorem ri_1 {o : Nat} (h : isRing o) : arI (o + 1) := by
  rcases h with rfl | rfl <;> rfl
theorem ld_1 {o : Nat} (h : isLand o) : isRoll (o + 1) := by
  rcases h with rfl | rfl <;> simp [isRoll]
theorem ld_4 {o : Nat} (h : isLand o) : isRoll (o + 4) := by
  rcases h with rfl | rfl <;> simp [isRoll]
theorem ld_7 {o : Nat} (h : isLand o) : isRoll (o + 7) := by
  rcases h with rfl | rfl <;> simp [isRoll]
theorem ld_10 {o : Nat} (h : isLand o) : isRoll (o + 10) := by
  rcases h with rfl | rfl <;> simp [isRoll]
theorem ld_13 {o : Nat} (h : isLand o) : isRoll (o + 13) := by
  rcases h with rfl | rfl <;> simp [isRoll]
theorem ld_16 {o : Nat} (h : isLand o) : arI (o + 16) := by
  rcases h with rfl | rfl <;> rfl
theorem ldl_16 {o : Nat} (h : isLand o) : shX[o + 16]? = some (.inl (0, 26)) := by
  rcases h with rfl | rfl <;> rfl
theorem ld_17 {o : Nat} (h : isLand o) : arI (o + 17) := by
  rcases h with rfl | rfl <;> rfl
theorem ldl_17 {o : Nat} (h : isLand o) : shX[o + 17]? = some (.inl (0, 26)) := by
  rcases h with rfl | rfl <;> rfl
theorem ld_18 {o : Nat} (h : isLand o) : arI (o + 18) := by
  rcases h with rfl | rfl <;> rfl
theorem ldl_18 {o : Nat} (h : isLand o) : shX[o + 18]? = some (.inl (0, 8)) := by
  rcases h with rfl | rfl <;> rfl
theorem ld_19 {o : Nat} (h : isLand o) : arI (o + 19) := by
  rcases h with rfl | rfl <;> rfl
theorem ldl_19 {o : Nat} (h : isLand o) : shX[o + 19]? = some (.inl (0, 1600)) := by
  rcases h with rfl | rfl <;> rfl
theorem rn_13 : isRing 13 := by simp [isRing]
theorem rn_19 : isRing 19 := by simp [isRing]
theorem rn_21 : isRoll 21 := by simp [isRoll]
theorem rn_35 : isRoll 35 := by simp [isRoll]
theorem rn_38 : isRoll 38 := by simp [isRoll]
theorem rn_41 : isRoll 41 := by simp [isRoll]
theorem rn_44 : isRoll 44 := by simp [isRoll]
theorem rn_47 : isRoll 47 := by simp [isRoll]
theorem rn_55 : isRoll 55 := by simp [isRoll]
theorem rn_58 : isRoll 58 := by simp [isRoll]
theorem rn_61 : isRoll 61 := by simp [isRoll]
theorem rn_64 : isRoll 64 := by simp [isRoll]
theorem rn_67 : isRoll 67 := by simp [isRoll]
theorem rn_34 : isLand 34 := by simp [isLand]
theorem rn_54 : isLand 54 := by simp [isLand]
theorem fc_X0 : FC 0 RX0 TX0 tyX0 3 := ⟨rfl, inl_X0, tyX0_ok, nmX0⟩
theorem fc_X1 : FC 1 RX1 TX1 tyX1 5 := ⟨rfl, inl_X1, tyX1_ok, nmX1⟩
theorem fc_X2 : FC 2 RX2 TX2 tyX2 12 := ⟨rfl, inl_X2, tyX2_ok, nmX2⟩
theorem fc_X3 : FC 3 RX3 TX3 tyX3 2 := ⟨rfl, inl_X3, tyX3_ok, nmX3⟩
theorem fc_X4 : FC 4 RX4 TX4 tyX4 11 := ⟨rfl, inl_X4, tyX4_ok, nmX4⟩
theorem fc_X5 : FC 5 RX5 TX5 tyX5 3 := ⟨rfl, inl_X5, tyX5_ok, nmX5⟩
theorem fc_X6 : FC 6 RX6 TX6 tyX6 10 := ⟨rfl, inl_X6, tyX6_ok, nmX6⟩
theorem fc_X7 : FC 7 RX7 TX7 tyX7 5 := ⟨rfl, inl_X7, tyX7_ok, nmX7⟩
theorem fc_X8 : FC 8 RX8 TX8 tyX8 5 := ⟨rfl, inl_X8, tyX8_ok, nmX8⟩
theorem fc_X9 : FC 9 RX9 TX9 tyX9 15 := ⟨rfl, inl_X9, tyX9_ok, nmX9⟩
theorem fc_X10 : FC 10 RX10 TX10 tyX10 12 := ⟨rfl, inl_X10, tyX10_ok, nmX10⟩
theorem fc_X11 : FC 11 RX11 TX11 tyX11 73 := ⟨rfl, inl_X11, tyX11_ok, nmX11⟩
theorem mv_X0_tell : MV yX0_tell cX0_tell 4 none 2 := ⟨cd_X0_tell, im_X0_tell, se_X0_tell, ini_X0, by decide +kernel, by decide +kernel, by decide +kernel⟩
theorem ms_J9_max_7cf53 : MS yJ9_max_7cf53 cJ9_max_7cf53 2 (some .int) 2 := ⟨cd_J9_max_7cf53, sm_J9_max_7cf53, ini_J9, by decide +kernel, by decide +kernel, by decide +kernel⟩
theorem ms_J9_max_f86c9 : MS yJ9_max_f86c9 cJ9_max_f86c9 4 (some .long) 2 := ⟨cd_J9_max_f86c9, sm_J9_max_f86c9, ini_J9, by decide +kernel, by decide +kernel, by decide +kernel⟩
theorem ms_J9_min_f86c9 : MS yJ9_min_f86c9 cJ9_min_f86c9 4 (some .long) 2 := ⟨cd_J9_min_f86c9, sm_J9_min_f86c9, ini_J9, by decide +kernel, by decide +kernel, by decide +kernel⟩
theorem ms_X0_held : MS yX0_held cX0_held 2 (some .int) 1 := ⟨cd_X0_held, sm_X0_held, ini_X0, by decide +kernel, by decide +kernel, by decide +kernel⟩
theorem ms_J9_floorDiv_f86c9 : MS yJ9_floorDiv_f86c9 cJ9_floorDiv_f86c9 6 (some .long) 2 := ⟨cd_J9_floorDiv_f86c9, sm_J9_floorDiv_f86c9, ini_J9, by decide +kernel, by decide +kernel, by decide +kernel⟩
theorem ms_J9_floorMod_f86c9 : MS yJ9_floorMod_f86c9 cJ9_floorMod_f86c9 6 (some .long) 2 := ⟨cd_J9_floorMod_f86c9, sm_J9_floorMod_f86c9, ini_J9, by decide +kernel, by decide +kernel, by decide +kernel⟩
theorem ms_X0_joined : MS yX0_joined cX0_joined 5 (some .long) 3 := ⟨cd_X0_joined, sm_X0_joined, ini_X0, by decide +kernel, by decide +kernel, by decide +kernel⟩
theorem mv_X0_pop : MV yX0_pop cX0_pop 1 (some .int) 0 := ⟨cd_X0_pop, im_X0_pop, se_X0_pop, ini_X0, by decide +kernel, by decide +kernel, by decide +kernel⟩
theorem mv_X0_push : MV yX0_push cX0_push 2 none 1 := ⟨cd_X0_push, im_X0_push, se_X0_push, ini_X0, by decide +kernel, by decide +kernel, by decide +kernel⟩
theorem mv_X0_run : MV yX0_run cX0_run 7 (some .int) 3 := ⟨cd_X0_run, im_X0_run, se_X0_run, ini_X0, by decide +kernel, by decide +kernel, by decide +kernel⟩
theorem mv_X8_get : MV yX8_get cX8_get 3 (some .int) 2 := ⟨cd_X8_get, im_X8_get, se_X8_get, ini_X8, by decide +kernel, by decide +kernel, by decide +kernel⟩
theorem mv_X0_firstLaw : MV yX0_firstLaw cX0_firstLaw 4 (some .int) 1 := ⟨cd_X0_firstLaw, im_X0_firstLaw, se_X0_firstLaw, ini_X0, by decide +kernel, by decide +kernel, by decide +kernel⟩
theorem mv_X7_clear : MV yX7_clear cX7_clear 1 none 0 := ⟨cd_X7_clear, im_X7_clear, se_X7_clear, ini_X7, by decide +kernel, by decide +kernel, by decide +kernel⟩
theorem mv_X1_forget : MV yX1_forget cX1_forget 1 none 0 := ⟨cd_X1_forget, im_X1_forget, se_X1_forget, ini_X1, by decide +kernel, by decide +kernel, by decide +kernel⟩
theorem mv_X7_place : MV yX7_place cX7_place 3 (some .int) 1 := ⟨cd_X7_place, im_X7_place, se_X7_place, ini_X7, by decide +kernel, by decide +kernel, by decide +kernel⟩
theorem mv_X7_grow : MV yX7_grow cX7_grow 1 none 0 := ⟨cd_X7_grow, im_X7_grow, se_X7_grow, ini_X7, by decide +kernel, by decide +kernel, by decide +kernel⟩
theorem mv_X7_set : MV yX7_set cX7_set 3 none 2 := ⟨cd_X7_set, im_X7_set, se_X7_set, ini_X7, by decide +kernel, by decide +kernel, by decide +kernel⟩
theorem mv_X1_note : MV yX1_note cX1_note 5 none 4 := ⟨cd_X1_note, im_X1_note, se_X1_note, ini_X1, by decide +kernel, by decide +kernel, by decide +kernel⟩
theorem mv_X8_holds : MV yX8_holds cX8_holds 2 (some .boolean) 1 := ⟨cd_X8_holds, im_X8_holds, se_X8_holds, ini_X8, by decide +kernel, by decide +kernel, by decide +kernel⟩
theorem mv_X2_bears : MV yX2_bears cX2_bears 3 (some .boolean) 2 := ⟨cd_X2_bears, im_X2_bears, se_X2_bears, ini_X2, by decide +kernel, by decide +kernel, by decide +kernel⟩
theorem mv_X2_lacks : MV yX2_lacks cX2_lacks 3 (some .boolean) 2 := ⟨cd_X2_lacks, im_X2_lacks, se_X2_lacks, ini_X2, by decide +kernel, by decide +kernel, by decide +kernel⟩
theorem mv_X2_come : MV yX2_come cX2_come 3 none 2 := ⟨cd_X2_come, im_X2_come, se_X2_come, ini_X2, by decide +kernel, by decide +kernel, by decide +kernel⟩
theorem mv_X2_count : MV yX2_count cX2_count 3 (some .int) 2 := ⟨cd_X2_count, im_X2_count, se_X2_count, ini_X2, by decide +kernel, by decide +kernel, by decide +kernel⟩
theorem ms_J6_bitCount_0f7a4 : MS yJ6_bitCount_0f7a4 cJ6_bitCount_0f7a4 1 (some .int) 1 := ⟨cd_J6_bitCount_0f7a4, sm_J6_bitCount_0f7a4, ini_J6, by decide +kernel, by decide +kernel, by decide +kernel⟩
theorem ms_J9_min_7cf53 : MS yJ9_min_7cf53 cJ9_min_7cf53 2 (some .int) 2 := ⟨cd_J9_min_7cf53, sm_J9_min_7cf53, ini_J9, by decide +kernel, by decide +kernel, by decide +kernel⟩
theorem mv_X2_ageOf : MV yX2_ageOf cX2_ageOf 2 (some .int) 1 := ⟨cd_X2_ageOf, im_X2_ageOf, se_X2_ageOf, ini_X2, by decide +kernel, by decide +kernel, by decide +kernel⟩
theorem mv_X2_titlesOf : MV yX2_titlesOf cX2_titlesOf 2 (some .int) 1 := ⟨cd_X2_titlesOf, im_X2_titlesOf, se_X2_titlesOf, ini_X2, by decide +kernel, by decide +kernel, by decide +kernel⟩
theorem mv_X4_honourOfSet : MV yX4_honourOfSet cX4_honourOfSet 4 (some .int) 1 := ⟨cd_X4_honourOfSet, im_X4_honourOfSet, se_X4_honourOfSet, ini_X4, by decide +kernel, by decide +kernel, by decide +kernel⟩
theorem mv_X2_honourOf : MV yX2_honourOf cX2_honourOf 2 (some .int) 1 := ⟨cd_X2_honourOf, im_X2_honourOf, se_X2_honourOf, ini_X2, by decide +kernel, by decide +kernel, by decide +kernel⟩
theorem mv_X4_partsAt : MV yX4_partsAt cX4_partsAt 4 (some .int) 1 := ⟨cd_X4_partsAt, im_X4_partsAt, se_X4_partsAt, ini_X4, by decide +kernel, by decide +kernel, by decide +kernel⟩
theorem mv_X2_limitOf : MV yX2_limitOf cX2_limitOf 5 (some .int) 1 := ⟨cd_X2_limitOf, im_X2_limitOf, se_X2_limitOf, ini_X2, by decide +kernel, by decide +kernel, by decide +kernel⟩
theorem mv_X4_ouncesOf : MV yX4_ouncesOf cX4_ouncesOf 2 (some .int) 1 := ⟨cd_X4_ouncesOf, im_X4_ouncesOf, se_X4_ouncesOf, ini_X4, by decide +kernel, by decide +kernel, by decide +kernel⟩
theorem mv_X2_looseOunces : MV yX2_looseOunces cX2_looseOunces 4 (some .int) 1 := ⟨cd_X2_looseOunces, im_X2_looseOunces, se_X2_looseOunces, ini_X2, by decide +kernel, by decide +kernel, by decide +kernel⟩
theorem mv_X4_ouncesOfSet : MV yX4_ouncesOfSet cX4_ouncesOfSet 4 (some .int) 1 := ⟨cd_X4_ouncesOfSet, im_X4_ouncesOfSet, se_X4_ouncesOfSet, ini_X4, by decide +kernel, by decide +kernel, by decide +kernel⟩
theorem mv_X2_loadOf : MV yX2_loadOf cX2_loadOf 2 (some .int) 1 := ⟨cd_X2_loadOf, im_X2_loadOf, se_X2_loadOf, ini_X2, by decide +kernel, by decide +kernel, by decide +kernel⟩
theorem ms_X8_letterOf : MS yX8_letterOf cX8_letterOf 2 (some .int) 2 := ⟨cd_X8_letterOf, sm_X8_letterOf, ini_X8, by decide +kernel, by decide +kernel, by decide +kernel⟩
theorem mv_X8_name : MV yX8_name cX8_name 2 (some .int) 1 := ⟨cd_X8_name, im_X8_name, se_X8_name, ini_X8, by decide +kernel, by decide +kernel, by decide +kernel⟩
theorem mv_X4_rankOf : MV yX4_rankOf cX4_rankOf 7 (some .int) 2 := ⟨cd_X4_rankOf, im_X4_rankOf, se_X4_rankOf, ini_X4, by decide +kernel, by decide +kernel, by decide +kernel⟩
theorem ms_X8_lengthOf : MS yX8_lengthOf cX8_lengthOf 2 (some .int) 1 := ⟨cd_X8_lengthOf, sm_X8_lengthOf, ini_X8, by decide +kernel, by decide +kernel, by decide +kernel⟩
theorem mv_X2_gainOunces : MV yX2_gainOunces cX2_gainOunces 9 (some .int) 2 := ⟨cd_X2_gainOunces, im_X2_gainOunces, se_X2_gainOunces, ini_X2, by decide +kernel, by decide +kernel, by decide +kernel⟩
theorem mv_X2_change : MV yX2_change cX2_change 4 none 3 := ⟨cd_X2_change, im_X2_change, se_X2_change, ini_X2, by decide +kernel, by decide +kernel, by decide +kernel⟩
theorem mv_X2_gather : MV yX2_gather cX2_gather 7 none 2 := ⟨cd_X2_gather, im_X2_gather, se_X2_gather, ini_X2, by decide +kernel, by decide +kernel, by decide +kernel⟩
theorem mv_X1_makeTitle : MV yX1_makeTitle cX1_makeTitle 4 (some .int) 2 := ⟨cd_X1_makeTitle, im_X1_makeTitle, se_X1_makeTitle, ini_X1, by decide +kernel, by decide +kernel, by decide +kernel⟩
theorem mv_X2_go : MV yX2_go cX2_go 3 none 2 := ⟨cd_X2_go, im_X2_go, se_X2_go, ini_X2, by decide +kernel, by decide +kernel, by decide +kernel⟩
theorem mv_X2_scatter : MV yX2_scatter cX2_scatter 6 none 2 := ⟨cd_X2_scatter, im_X2_scatter, se_X2_scatter, ini_X2, by decide +kernel, by decide +kernel, by decide +kernel⟩
theorem mv_X4_titleOunces : MV yX4_titleOunces cX4_titleOunces 2 (some .int) 1 := ⟨cd_X4_titleOunces, im_X4_titleOunces, se_X4_titleOunces, ini_X4, by decide +kernel, by decide +kernel, by decide +kernel⟩
theorem mv_X1_dropTitle : MV yX1_dropTitle cX1_dropTitle 3 (some .int) 2 := ⟨cd_X1_dropTitle, im_X1_dropTitle, se_X1_dropTitle, ini_X1, by decide +kernel, by decide +kernel, by decide +kernel⟩
theorem mv_X2_isPerson : MV yX2_isPerson cX2_isPerson 2 (some .boolean) 1 := ⟨cd_X2_isPerson, im_X2_isPerson, se_X2_isPerson, ini_X2, by decide +kernel, by decide +kernel, by decide +kernel⟩
theorem ms_X2_isIn : MS yX2_isIn cX2_isIn 4 (some .boolean) 2 := ⟨cd_X2_isIn, sm_X2_isIn, ini_X2, by decide +kernel, by decide +kernel, by decide +kernel⟩
theorem mv_X2_titleWith : MV yX2_titleWith cX2_titleWith 4 (some .int) 2 := ⟨cd_X2_titleWith, im_X2_titleWith, se_X2_titleWith, ini_X2, by decide +kernel, by decide +kernel, by decide +kernel⟩
theorem mv_X1_takeLetter : MV yX1_takeLetter cX1_takeLetter 5 (some .boolean) 3 := ⟨cd_X1_takeLetter, im_X1_takeLetter, se_X1_takeLetter, ini_X1, by decide +kernel, by decide +kernel, by decide +kernel⟩
theorem mv_X1_swapLetters : MV yX1_swapLetters cX1_swapLetters 5 (some .boolean) 4 := ⟨cd_X1_swapLetters, im_X1_swapLetters, se_X1_swapLetters, ini_X1, by decide +kernel, by decide +kernel, by decide +kernel⟩
theorem mv_X8_isFull : MV yX8_isFull cX8_isFull 1 (some .boolean) 0 := ⟨cd_X8_isFull, im_X8_isFull, se_X8_isFull, ini_X8, by decide +kernel, by decide +kernel, by decide +kernel⟩
theorem mv_X8_add : MV yX8_add cX8_add 2 (some .int) 1 := ⟨cd_X8_add, im_X8_add, se_X8_add, ini_X8, by decide +kernel, by decide +kernel, by decide +kernel⟩
theorem mv_X8_put : MV yX8_put cX8_put 4 none 3 := ⟨cd_X8_put, im_X8_put, se_X8_put, ini_X8, by decide +kernel, by decide +kernel, by decide +kernel⟩
theorem mv_X1_lendTitle : MV yX1_lendTitle cX1_lendTitle 6 (some .int) 3 := ⟨cd_X1_lendTitle, im_X1_lendTitle, se_X1_lendTitle, ini_X1, by decide +kernel, by decide +kernel, by decide +kernel⟩
theorem mv_X1_canUndo : MV yX1_canUndo cX1_canUndo 3 (some .boolean) 1 := ⟨cd_X1_canUndo, im_X1_canUndo, se_X1_canUndo, ini_X1, by decide +kernel, by decide +kernel, by decide +kernel⟩
theorem mv_X8_remove : MV yX8_remove cX8_remove 4 none 1 := ⟨cd_X8_remove, im_X8_remove, se_X8_remove, ini_X8, by decide +kernel, by decide +kernel, by decide +kernel⟩
theorem mv_X1_undoLoan : MV yX1_undoLoan cX1_undoLoan 5 (some .boolean) 1 := ⟨cd_X1_undoLoan, im_X1_undoLoan, se_X1_undoLoan, ini_X1, by decide +kernel, by decide +kernel, by decide +kernel⟩
theorem mv_X1_sinkCoat : MV yX1_sinkCoat cX1_sinkCoat 4 (some .int) 1 := ⟨cd_X1_sinkCoat, im_X1_sinkCoat, se_X1_sinkCoat, ini_X1, by decide +kernel, by decide +kernel, by decide +kernel⟩
theorem mv_X1_castBullet : MV yX1_castBullet cX1_castBullet 4 (some .int) 2 := ⟨cd_X1_castBullet, im_X1_castBullet, se_X1_castBullet, ini_X1, by decide +kernel, by decide +kernel, by decide +kernel⟩
theorem mv_X2_pourLoose : MV yX2_pourLoose cX2_pourLoose 4 none 1 := ⟨cd_X2_pourLoose, im_X2_pourLoose, se_X2_pourLoose, ini_X2, by decide +kernel, by decide +kernel, by decide +kernel⟩
theorem mv_X9_compare : MV yX9_compare cX9_compare 4 none 2 := ⟨cd_X9_compare, im_X9_compare, se_X9_compare, ini_X9, by decide +kernel, by decide +kernel, by decide +kernel⟩
theorem mv_X9_choose : MV yX9_choose cX9_choose 5 none 4 := ⟨cd_X9_choose, im_X9_choose, se_X9_choose, ini_X9, by decide +kernel, by decide +kernel, by decide +kernel⟩
theorem mv_X9_bestSet : MV yX9_bestSet cX9_bestSet 6 (some .int) 3 := ⟨cd_X9_bestSet, im_X9_bestSet, se_X9_bestSet, ini_X9, by decide +kernel, by decide +kernel, by decide +kernel⟩
theorem mv_X1_inherit : MV yX1_inherit cX1_inherit 7 (some .int) 2 := ⟨cd_X1_inherit, im_X1_inherit, se_X1_inherit, ini_X1, by decide +kernel, by decide +kernel, by decide +kernel⟩
theorem mv_X1_lighten : MV yX1_lighten cX1_lighten 6 (some .int) 1 := ⟨cd_X1_lighten, im_X1_lighten, se_X1_lighten, ini_X1, by decide +kernel, by decide +kernel, by decide +kernel⟩
theorem mv_X1_passYears : MV yX1_passYears cX1_passYears 5 (some .int) 1 := ⟨cd_X1_passYears, im_X1_passYears, se_X1_passYears, ini_X1, by decide +kernel, by decide +kernel, by decide +kernel⟩
theorem mv_X1_gainable : MV yX1_gainable cX1_gainable 4 (some .int) 1 := ⟨cd_X1_gainable, im_X1_gainable, se_X1_gainable, ini_X1, by decide +kernel, by decide +kernel, by decide +kernel⟩
theorem mv_X1_gainableAt : MV yX1_gainableAt cX1_gainableAt 5 (some .int) 2 := ⟨cd_X1_gainableAt, im_X1_gainableAt, se_X1_gainableAt, ini_X1, by decide +kernel, by decide +kernel, by decide +kernel⟩
theorem mv_X1_draw : MV yX1_draw cX1_draw 2 (some .int) 1 := ⟨cd_X1_draw, im_X1_draw, se_X1_draw, ini_X1, by decide +kernel, by decide +kernel, by decide +kernel⟩
theorem mv_X1_sow : MV yX1_sow cX1_sow 2 (some .boolean) 1 := ⟨cd_X1_sow, im_X1_sow, se_X1_sow, ini_X1, by decide +kernel, by decide +kernel, by decide +kernel⟩
theorem ms_J7_fill_53178 : MS yJ7_fill_53178 cJ7_fill_53178 4 none 2 := ⟨cd_J7_fill_53178, sm_J7_fill_53178, ini_J7, by decide +kernel, by decide +kernel, by decide +kernel⟩
theorem mv_X2_bearAnew : MV yX2_bearAnew cX2_bearAnew 1 none 0 := ⟨cd_X2_bearAnew, im_X2_bearAnew, se_X2_bearAnew, ini_X2, by decide +kernel, by decide +kernel, by decide +kernel⟩
theorem mv_X2_settle : MV yX2_settle cX2_settle 2 none 1 := ⟨cd_X2_settle, im_X2_settle, se_X2_settle, ini_X2, by decide +kernel, by decide +kernel, by decide +kernel⟩
theorem mv_X2_bearers : MV yX2_bearers cX2_bearers 4 (some .int) 1 := ⟨cd_X2_bearers, im_X2_bearers, se_X2_bearers, ini_X2, by decide +kernel, by decide +kernel, by decide +kernel⟩
theorem mv_X7_get : MV yX7_get cX7_get 3 (some .int) 2 := ⟨cd_X7_get, im_X7_get, se_X7_get, ini_X7, by decide +kernel, by decide +kernel, by decide +kernel⟩
theorem mv_X2_signers : MV yX2_signers cX2_signers 5 (some .int) 2 := ⟨cd_X2_signers, im_X2_signers, se_X2_signers, ini_X2, by decide +kernel, by decide +kernel, by decide +kernel⟩
theorem mv_X2_looseLetters : MV yX2_looseLetters cX2_looseLetters 4 (some .int) 1 := ⟨cd_X2_looseLetters, im_X2_looseLetters, se_X2_looseLetters, ini_X2, by decide +kernel, by decide +kernel, by decide +kernel⟩
theorem mv_X2_coatOunces : MV yX2_coatOunces cX2_coatOunces 3 (some .int) 0 := ⟨cd_X2_coatOunces, im_X2_coatOunces, se_X2_coatOunces, ini_X2, by decide +kernel, by decide +kernel, by decide +kernel⟩
theorem mv_X2_bulletOunces : MV yX2_bulletOunces cX2_bulletOunces 3 (some .int) 0 := ⟨cd_X2_bulletOunces, im_X2_bulletOunces, se_X2_bulletOunces, ini_X2, by decide +kernel, by decide +kernel, by decide +kernel⟩
theorem mv_X2_countLetters : MV yX2_countLetters cX2_countLetters 8 none 2 := ⟨cd_X2_countLetters, im_X2_countLetters, se_X2_countLetters, ini_X2, by decide +kernel, by decide +kernel, by decide +kernel⟩
theorem mv_X2_canLay : MV yX2_canLay cX2_canLay 6 (some .boolean) 1 := ⟨cd_X2_canLay, im_X2_canLay, se_X2_canLay, ini_X2, by decide +kernel, by decide +kernel, by decide +kernel⟩
theorem mv_X2_calledBy : MV yX2_calledBy cX2_calledBy 4 (some .int) 1 := ⟨cd_X2_calledBy, im_X2_calledBy, se_X2_calledBy, ini_X2, by decide +kernel, by decide +kernel, by decide +kernel⟩
theorem mv_X2_sharedOunces : MV yX2_sharedOunces cX2_sharedOunces 5 (some .int) 2 := ⟨cd_X2_sharedOunces, im_X2_sharedOunces, se_X2_sharedOunces, ini_X2, by decide +kernel, by decide +kernel, by decide +kernel⟩
theorem mv_X3_put : MV yX3_put cX3_put 4 none 2 := ⟨cd_X3_put, im_X3_put, se_X3_put, ini_X3, by decide +kernel, by decide +kernel, by decide +kernel⟩
theorem mv_X3_putLetters : MV yX3_putLetters cX3_putLetters 4 none 2 := ⟨cd_X3_putLetters, im_X3_putLetters, se_X3_putLetters, ini_X3, by decide +kernel, by decide +kernel, by decide +kernel⟩
theorem ms_X3_seal : MS yX3_seal cX3_seal 4 (some .int) 2 := ⟨cd_X3_seal, sm_X3_seal, ini_X3, by decide +kernel, by decide +kernel, by decide +kernel⟩
theorem mv_X3_write : MV yX3_write cX3_write 3 none 1 := ⟨cd_X3_write, im_X3_write, se_X3_write, ini_X3, by decide +kernel, by decide +kernel, by decide +kernel⟩
theorem ms_X3_number : MS yX3_number cX3_number 5 (some .int) 3 := ⟨cd_X3_number, sm_X3_number, ini_X3, by decide +kernel, by decide +kernel, by decide +kernel⟩
theorem ms_X3_heapStart : MS yX3_heapStart cX3_heapStart 1 (some .int) 1 := ⟨cd_X3_heapStart, sm_X3_heapStart, ini_X3, by decide +kernel, by decide +kernel, by decide +kernel⟩
theorem ms_X3_riverStart : MS yX3_riverStart cX3_riverStart 1 (some .int) 1 := ⟨cd_X3_riverStart, sm_X3_riverStart, ini_X3, by decide +kernel, by decide +kernel, by decide +kernel⟩
theorem mv_X4_allTitles : MV yX4_allTitles cX4_allTitles 1 (some .int) 0 := ⟨cd_X4_allTitles, im_X4_allTitles, se_X4_allTitles, ini_X4, by decide +kernel, by decide +kernel, by decide +kernel⟩
theorem ms_X3_hasKnownTitles : MS yX3_hasKnownTitles cX3_hasKnownTitles 3 (some .boolean) 2 := ⟨cd_X3_hasKnownTitles, sm_X3_hasKnownTitles, ini_X3, by decide +kernel, by decide +kernel, by decide +kernel⟩
theorem ms_X3_hasRightBullets : MS yX3_hasRightBullets cX3_hasRightBullets 4 (some .boolean) 3 := ⟨cd_X3_hasRightBullets, sm_X3_hasRightBullets, ini_X3, by decide +kernel, by decide +kernel, by decide +kernel⟩
theorem ms_X3_lettersOfSet : MS yX3_lettersOfSet cX3_lettersOfSet 4 (some .int) 2 := ⟨cd_X3_lettersOfSet, sm_X3_lettersOfSet, ini_X3, by decide +kernel, by decide +kernel, by decide +kernel⟩
theorem ms_X3_isLightEnough : MS yX3_isLightEnough cX3_isLightEnough 15 (some .boolean) 2 := ⟨cd_X3_isLightEnough, sm_X3_isLightEnough, ini_X3, by decide +kernel, by decide +kernel, by decide +kernel⟩
theorem ms_X3_fits : MS yX3_fits cX3_fits 5 (some .boolean) 3 := ⟨cd_X3_fits, sm_X3_fits, ini_X3, by decide +kernel, by decide +kernel, by decide +kernel⟩
theorem ms_X3_restoreLetters : MS yX3_restoreLetters cX3_restoreLetters 6 none 4 := ⟨cd_X3_restoreLetters, sm_X3_restoreLetters, ini_X3, by decide +kernel, by decide +kernel, by decide +kernel⟩
theorem ms_X3_restore : MS yX3_restore cX3_restore 4 none 2 := ⟨cd_X3_restore, sm_X3_restore, ini_X3, by decide +kernel, by decide +kernel, by decide +kernel⟩
theorem mv_X4_clear : MV yX4_clear cX4_clear 1 none 0 := ⟨cd_X4_clear, im_X4_clear, se_X4_clear, ini_X4, by decide +kernel, by decide +kernel, by decide +kernel⟩
theorem mv_X4_addCode : MV yX4_addCode cX4_addCode 2 (some .boolean) 1 := ⟨cd_X4_addCode, im_X4_addCode, se_X4_addCode, ini_X4, by decide +kernel, by decide +kernel, by decide +kernel⟩
theorem mv_X8_find : MV yX8_find cX8_find 3 (some .int) 1 := ⟨cd_X8_find, im_X8_find, se_X8_find, ini_X8, by decide +kernel, by decide +kernel, by decide +kernel⟩
theorem mv_X4_isNamed : MV yX4_isNamed cX4_isNamed 2 (some .boolean) 1 := ⟨cd_X4_isNamed, im_X4_isNamed, se_X4_isNamed, ini_X4, by decide +kernel, by decide +kernel, by decide +kernel⟩
theorem mv_X4_nameOunces : MV yX4_nameOunces cX4_nameOunces 5 (some .int) 1 := ⟨cd_X4_nameOunces, im_X4_nameOunces, se_X4_nameOunces, ini_X4, by decide +kernel, by decide +kernel, by decide +kernel⟩
theorem mv_X4_weighTitles : MV yX4_weighTitles cX4_weighTitles 2 none 0 := ⟨cd_X4_weighTitles, im_X4_weighTitles, se_X4_weighTitles, ini_X4, by decide +kernel, by decide +kernel, by decide +kernel⟩
theorem mv_X4_likely : MV yX4_likely cX4_likely 8 (some .long) 3 := ⟨cd_X4_likely, im_X4_likely, se_X4_likely, ini_X4, by decide +kernel, by decide +kernel, by decide +kernel⟩
theorem mv_X4_shareOf : MV yX4_shareOf cX4_shareOf 7 (some .int) 3 := ⟨cd_X4_shareOf, im_X4_shareOf, se_X4_shareOf, ini_X4, by decide +kernel, by decide +kernel, by decide +kernel⟩
theorem mv_X4_pairLength : MV yX4_pairLength cX4_pairLength 3 (some .int) 2 := ⟨cd_X4_pairLength, im_X4_pairLength, se_X4_pairLength, ini_X4, by decide +kernel, by decide +kernel, by decide +kernel⟩
theorem ms_X4_start : MS yX4_start cX4_start 2 (some .int) 2 := ⟨cd_X4_start, sm_X4_start, ini_X4, by decide +kernel, by decide +kernel, by decide +kernel⟩
theorem ms_X4_isWithin : MS yX4_isWithin cX4_isWithin 5 (some .boolean) 2 := ⟨cd_X4_isWithin, sm_X4_isWithin, ini_X4, by decide +kernel, by decide +kernel, by decide +kernel⟩
theorem ms_X4_joint : MS yX4_joint cX4_joint 4 (some .int) 2 := ⟨cd_X4_joint, sm_X4_joint, ini_X4, by decide +kernel, by decide +kernel, by decide +kernel⟩
theorem mv_X4_shared : MV yX4_shared cX4_shared 5 (some .int) 2 := ⟨cd_X4_shared, im_X4_shared, se_X4_shared, ini_X4, by decide +kernel, by decide +kernel, by decide +kernel⟩
theorem mv_X4_rowOunces : MV yX4_rowOunces cX4_rowOunces 10 (some .int) 2 := ⟨cd_X4_rowOunces, im_X4_rowOunces, se_X4_rowOunces, ini_X4, by decide +kernel, by decide +kernel, by decide +kernel⟩
theorem mv_X6_fail : MV yX6_fail cX6_fail 3 (some .boolean) 2 := ⟨cd_X6_fail, im_X6_fail, se_X6_fail, ini_X6, by decide +kernel, by decide +kernel, by decide +kernel⟩
theorem mv_X6_failHere : MV yX6_failHere cX6_failHere 2 (some .boolean) 1 := ⟨cd_X6_failHere, im_X6_failHere, se_X6_failHere, ini_X6, by decide +kernel, by decide +kernel, by decide +kernel⟩
theorem ms_X6_kindOf : MS yX6_kindOf cX6_kindOf 1 (some .int) 1 := ⟨cd_X6_kindOf, sm_X6_kindOf, ini_X6, by decide +kernel, by decide +kernel, by decide +kernel⟩
theorem mv_X6_readNumber : MV yX6_readNumber cX6_readNumber 1 (some .boolean) 0 := ⟨cd_X6_readNumber, im_X6_readNumber, se_X6_readNumber, ini_X6, by decide +kernel, by decide +kernel, by decide +kernel⟩
theorem mv_X6_readWord : MV yX6_readWord cX6_readWord 2 (some .boolean) 0 := ⟨cd_X6_readWord, im_X6_readWord, se_X6_readWord, ini_X6, by decide +kernel, by decide +kernel, by decide +kernel⟩
theorem mv_X6_look : MV yX6_look cX6_look 3 (some .int) 0 := ⟨cd_X6_look, im_X6_look, se_X6_look, ini_X6, by decide +kernel, by decide +kernel, by decide +kernel⟩
theorem mv_X6_skip : MV yX6_skip cX6_skip 1 none 0 := ⟨cd_X6_skip, im_X6_skip, se_X6_skip, ini_X6, by decide +kernel, by decide +kernel, by decide +kernel⟩
theorem mv_X5_number : MV yX5_number cX5_number 3 (some .boolean) 2 := ⟨cd_X5_number, im_X5_number, se_X5_number, ini_X5, by decide +kernel, by decide +kernel, by decide +kernel⟩
theorem mv_X5_oneLetter : MV yX5_oneLetter cX5_oneLetter 2 (some .boolean) 0 := ⟨cd_X5_oneLetter, im_X5_oneLetter, se_X5_oneLetter, ini_X5, by decide +kernel, by decide +kernel, by decide +kernel⟩
theorem mv_X5_heapLetters : MV yX5_heapLetters cX5_heapLetters 2 (some .boolean) 0 := ⟨cd_X5_heapLetters, im_X5_heapLetters, se_X5_heapLetters, ini_X5, by decide +kernel, by decide +kernel, by decide +kernel⟩
theorem mv_X5_letterOunces : MV yX5_letterOunces cX5_letterOunces 2 (some .boolean) 0 := ⟨cd_X5_letterOunces, im_X5_letterOunces, se_X5_letterOunces, ini_X5, by decide +kernel, by decide +kernel, by decide +kernel⟩
theorem mv_X5_begin : MV yX5_begin cX5_begin 2 (some .boolean) 1 := ⟨cd_X5_begin, im_X5_begin, se_X5_begin, ini_X5, by decide +kernel, by decide +kernel, by decide +kernel⟩
theorem mv_X5_keep : MV yX5_keep cX5_keep 3 (some .boolean) 2 := ⟨cd_X5_keep, im_X5_keep, se_X5_keep, ini_X5, by decide +kernel, by decide +kernel, by decide +kernel⟩
theorem mv_X5_newAge : MV yX5_newAge cX5_newAge 2 (some .boolean) 0 := ⟨cd_X5_newAge, im_X5_newAge, se_X5_newAge, ini_X5, by decide +kernel, by decide +kernel, by decide +kernel⟩
theorem mv_X5_newName : MV yX5_newName cX5_newName 2 (some .boolean) 1 := ⟨cd_X5_newName, im_X5_newName, se_X5_newName, ini_X5, by decide +kernel, by decide +kernel, by decide +kernel⟩
theorem mv_X5_newBridge : MV yX5_newBridge cX5_newBridge 1 (some .boolean) 0 := ⟨cd_X5_newBridge, im_X5_newBridge, se_X5_newBridge, ini_X5, by decide +kernel, by decide +kernel, by decide +kernel⟩
theorem mv_X5_bracket : MV yX5_bracket cX5_bracket 2 (some .boolean) 1 := ⟨cd_X5_bracket, im_X5_bracket, se_X5_bracket, ini_X5, by decide +kernel, by decide +kernel, by decide +kernel⟩
theorem mv_X5_token : MV yX5_token cX5_token 2 (some .boolean) 1 := ⟨cd_X5_token, im_X5_token, se_X5_token, ini_X5, by decide +kernel, by decide +kernel, by decide +kernel⟩
theorem mv_X5_step : MV yX5_step cX5_step 2 (some .boolean) 1 := ⟨cd_X5_step, im_X5_step, se_X5_step, ini_X5, by decide +kernel, by decide +kernel, by decide +kernel⟩
theorem mv_X5_choice : MV yX5_choice cX5_choice 3 (some .boolean) 2 := ⟨cd_X5_choice, im_X5_choice, se_X5_choice, ini_X5, by decide +kernel, by decide +kernel, by decide +kernel⟩
theorem mv_X5_part : MV yX5_part cX5_part 2 (some .boolean) 1 := ⟨cd_X5_part, im_X5_part, se_X5_part, ini_X5, by decide +kernel, by decide +kernel, by decide +kernel⟩
theorem mv_X5_product : MV yX5_product cX5_product 5 (some .boolean) 1 := ⟨cd_X5_product, im_X5_product, se_X5_product, ini_X5, by decide +kernel, by decide +kernel, by decide +kernel⟩
theorem mv_X5_sum : MV yX5_sum cX5_sum 5 (some .boolean) 1 := ⟨cd_X5_sum, im_X5_sum, se_X5_sum, ini_X5, by decide +kernel, by decide +kernel, by decide +kernel⟩
theorem mv_X5_comparisonSign : MV yX5_comparisonSign cX5_comparisonSign 2 (some .int) 0 := ⟨cd_X5_comparisonSign, im_X5_comparisonSign, se_X5_comparisonSign, ini_X5, by decide +kernel, by decide +kernel, by decide +kernel⟩
theorem mv_X5_fact : MV yX5_fact cX5_fact 5 (some .boolean) 1 := ⟨cd_X5_fact, im_X5_fact, se_X5_fact, ini_X5, by decide +kernel, by decide +kernel, by decide +kernel⟩
theorem mv_X5_both : MV yX5_both cX5_both 4 (some .boolean) 1 := ⟨cd_X5_both, im_X5_both, se_X5_both, ini_X5, by decide +kernel, by decide +kernel, by decide +kernel⟩
theorem mv_X5_test : MV yX5_test cX5_test 4 (some .boolean) 1 := ⟨cd_X5_test, im_X5_test, se_X5_test, ini_X5, by decide +kernel, by decide +kernel, by decide +kernel⟩
theorem mv_X5_newLaw : MV yX5_newLaw cX5_newLaw 2 (some .boolean) 0 := ⟨cd_X5_newLaw, im_X5_newLaw, se_X5_newLaw, ini_X5, by decide +kernel, by decide +kernel, by decide +kernel⟩
theorem mv_X5_newPerson : MV yX5_newPerson cX5_newPerson 1 (some .boolean) 0 := ⟨cd_X5_newPerson, im_X5_newPerson, se_X5_newPerson, ini_X5, by decide +kernel, by decide +kernel, by decide +kernel⟩
theorem mv_X5_newTitle : MV yX5_newTitle cX5_newTitle 1 (some .boolean) 0 := ⟨cd_X5_newTitle, im_X5_newTitle, se_X5_newTitle, ini_X5, by decide +kernel, by decide +kernel, by decide +kernel⟩
theorem mv_X5_knownName : MV yX5_knownName cX5_knownName 2 (some .boolean) 1 := ⟨cd_X5_knownName, im_X5_knownName, se_X5_knownName, ini_X5, by decide +kernel, by decide +kernel, by decide +kernel⟩
theorem mv_X5_titleHad : MV yX5_titleHad cX5_titleHad 3 (some .boolean) 0 := ⟨cd_X5_titleHad, im_X5_titleHad, se_X5_titleHad, ini_X5, by decide +kernel, by decide +kernel, by decide +kernel⟩
theorem mv_X5_yearNow : MV yX5_yearNow cX5_yearNow 1 (some .boolean) 0 := ⟨cd_X5_yearNow, im_X5_yearNow, se_X5_yearNow, ini_X5, by decide +kernel, by decide +kernel, by decide +kernel⟩
theorem mv_X5_readLand : MV yX5_readLand cX5_readLand 4 (some .int) 1 := ⟨cd_X5_readLand, im_X5_readLand, se_X5_readLand, ini_X5, by decide +kernel, by decide +kernel, by decide +kernel⟩
theorem mv_X6_start : MV yX6_start cX6_start 2 none 1 := ⟨cd_X6_start, im_X6_start, se_X6_start, ini_X6, by decide +kernel, by decide +kernel, by decide +kernel⟩
theorem mv_X9_collect : MV yX9_collect cX9_collect 5 none 3 := ⟨cd_X9_collect, im_X9_collect, se_X9_collect, ini_X9, by decide +kernel, by decide +kernel, by decide +kernel⟩
theorem mv_X9_seekBullets : MV yX9_seekBullets cX9_seekBullets 6 none 3 := ⟨cd_X9_seekBullets, im_X9_seekBullets, se_X9_seekBullets, ini_X9, by decide +kernel, by decide +kernel, by decide +kernel⟩
theorem mv_X9_place : MV yX9_place cX9_place 4 none 2 := ⟨cd_X9_place, im_X9_place, se_X9_place, ini_X9, by decide +kernel, by decide +kernel, by decide +kernel⟩
theorem mv_X9_fewestGroups : MV yX9_fewestGroups cX9_fewestGroups 6 (some .int) 3 := ⟨cd_X9_fewestGroups, im_X9_fewestGroups, se_X9_fewestGroups, ini_X9, by decide +kernel, by decide +kernel, by decide +kernel⟩
theorem mv_X10_counted : MV yX10_counted cX10_counted 3 (some .int) 2 := ⟨cd_X10_counted, im_X10_counted, se_X10_counted, ini_X10, by decide +kernel, by decide +kernel, by decide +kernel⟩
theorem mv_X10_putOnTape : MV yX10_putOnTape cX10_putOnTape 3 none 1 := ⟨cd_X10_putOnTape, im_X10_putOnTape, se_X10_putOnTape, ini_X10, by decide +kernel, by decide +kernel, by decide +kernel⟩
theorem mv_X10_feed : MV yX10_feed cX10_feed 6 (some .int) 5 := ⟨cd_X10_feed, im_X10_feed, se_X10_feed, ini_X10, by decide +kernel, by decide +kernel, by decide +kernel⟩
theorem mv_X10_granted : MV yX10_granted cX10_granted 3 (some .boolean) 2 := ⟨cd_X10_granted, im_X10_granted, se_X10_granted, ini_X10, by decide +kernel, by decide +kernel, by decide +kernel⟩
theorem mv_X10_end : MV yX10_end cX10_end 2 (some .boolean) 1 := ⟨cd_X10_end, im_X10_end, se_X10_end, ini_X10, by decide +kernel, by decide +kernel, by decide +kernel⟩
theorem mv_X10_land : MV yX10_land cX10_land 3 (some .int) 0 := ⟨cd_X10_land, im_X10_land, se_X10_land, ini_X10, by decide +kernel, by decide +kernel, by decide +kernel⟩
theorem mv_X10_fault : MV yX10_fault cX10_fault 2 (some .int) 1 := ⟨cd_X10_fault, im_X10_fault, se_X10_fault, ini_X10, by decide +kernel, by decide +kernel, by decide +kernel⟩
theorem mv_X10_has : MV yX10_has cX10_has 3 (some .int) 1 := ⟨cd_X10_has, im_X10_has, se_X10_has, ini_X10, by decide +kernel, by decide +kernel, by decide +kernel⟩
theorem mv_X10_letter : MV yX10_letter cX10_letter 7 (some .int) 3 := ⟨cd_X10_letter, im_X10_letter, se_X10_letter, ini_X10, by decide +kernel, by decide +kernel, by decide +kernel⟩
theorem ms_X10_letterIndex : MS yX10_letterIndex cX10_letterIndex 2 (some .int) 1 := ⟨cd_X10_letterIndex, sm_X10_letterIndex, ini_X10, by decide +kernel, by decide +kernel, by decide +kernel⟩
theorem mv_X10_ounces : MV yX10_ounces cX10_ounces 2 (some .int) 1 := ⟨cd_X10_ounces, im_X10_ounces, se_X10_ounces, ini_X10, by decide +kernel, by decide +kernel, by decide +kernel⟩
theorem mv_X10_title : MV yX10_title cX10_title 4 (some .int) 2 := ⟨cd_X10_title, im_X10_title, se_X10_title, ini_X10, by decide +kernel, by decide +kernel, by decide +kernel⟩
theorem mv_X10_bestOfAll : MV yX10_bestOfAll cX10_bestOfAll 2 (some .int) 1 := ⟨cd_X10_bestOfAll, im_X10_bestOfAll, se_X10_bestOfAll, ini_X10, by decide +kernel, by decide +kernel, by decide +kernel⟩
theorem mv_X10_person : MV yX10_person cX10_person 3 (some .int) 2 := ⟨cd_X10_person, im_X10_person, se_X10_person, ini_X10, by decide +kernel, by decide +kernel, by decide +kernel⟩
theorem mv_X10_loose : MV yX10_loose cX10_loose 4 (some .int) 2 := ⟨cd_X10_loose, im_X10_loose, se_X10_loose, ini_X10, by decide +kernel, by decide +kernel, by decide +kernel⟩
theorem mv_X10_lead : MV yX10_lead cX10_lead 2 (some .int) 1 := ⟨cd_X10_lead, im_X10_lead, se_X10_lead, ini_X10, by decide +kernel, by decide +kernel, by decide +kernel⟩
theorem mv_X10_gain : MV yX10_gain cX10_gain 3 (some .int) 2 := ⟨cd_X10_gain, im_X10_gain, se_X10_gain, ini_X10, by decide +kernel, by decide +kernel, by decide +kernel⟩
theorem mv_X10_shed : MV yX10_shed cX10_shed 3 (some .int) 2 := ⟨cd_X10_shed, im_X10_shed, se_X10_shed, ini_X10, by decide +kernel, by decide +kernel, by decide +kernel⟩
theorem mv_X10_steal : MV yX10_steal cX10_steal 4 (some .boolean) 3 := ⟨cd_X10_steal, im_X10_steal, se_X10_steal, ini_X10, by decide +kernel, by decide +kernel, by decide +kernel⟩
theorem mv_X10_trade : MV yX10_trade cX10_trade 7 (some .boolean) 4 := ⟨cd_X10_trade, im_X10_trade, se_X10_trade, ini_X10, by decide +kernel, by decide +kernel, by decide +kernel⟩
theorem mv_X10_lend : MV yX10_lend cX10_lend 4 (some .int) 3 := ⟨cd_X10_lend, im_X10_lend, se_X10_lend, ini_X10, by decide +kernel, by decide +kernel, by decide +kernel⟩
theorem mv_X10_giveBack : MV yX10_giveBack cX10_giveBack 2 (some .boolean) 1 := ⟨cd_X10_giveBack, im_X10_giveBack, se_X10_giveBack, ini_X10, by decide +kernel, by decide +kernel, by decide +kernel⟩
theorem mv_X10_loan : MV yX10_loan cX10_loan 3 (some .int) 2 := ⟨cd_X10_loan, im_X10_loan, se_X10_loan, ini_X10, by decide +kernel, by decide +kernel, by decide +kernel⟩
theorem mv_X10_drown : MV yX10_drown cX10_drown 2 (some .int) 1 := ⟨cd_X10_drown, im_X10_drown, se_X10_drown, ini_X10, by decide +kernel, by decide +kernel, by decide +kernel⟩
theorem mv_X10_melt : MV yX10_melt cX10_melt 3 (some .int) 2 := ⟨cd_X10_melt, im_X10_melt, se_X10_melt, ini_X10, by decide +kernel, by decide +kernel, by decide +kernel⟩
theorem mv_X10_heir : MV yX10_heir cX10_heir 3 (some .int) 2 := ⟨cd_X10_heir, im_X10_heir, se_X10_heir, ini_X10, by decide +kernel, by decide +kernel, by decide +kernel⟩
theorem mv_X10_years : MV yX10_years cX10_years 2 (some .int) 1 := ⟨cd_X10_years, im_X10_years, se_X10_years, ini_X10, by decide +kernel, by decide +kernel, by decide +kernel⟩
theorem mv_X10_feast : MV yX10_feast cX10_feast 4 (some .int) 0 := ⟨cd_X10_feast, im_X10_feast, se_X10_feast, ini_X10, by decide +kernel, by decide +kernel, by decide +kernel⟩
theorem mv_X10_seed : MV yX10_seed cX10_seed 2 (some .boolean) 1 := ⟨cd_X10_seed, im_X10_seed, se_X10_seed, ini_X10, by decide +kernel, by decide +kernel, by decide +kernel⟩
theorem mv_X10_signed : MV yX10_signed cX10_signed 3 (some .int) 2 := ⟨cd_X10_signed, im_X10_signed, se_X10_signed, ini_X10, by decide +kernel, by decide +kernel, by decide +kernel⟩
theorem mv_X10_span : MV yX10_span cX10_span 3 (some .int) 2 := ⟨cd_X10_span, im_X10_span, se_X10_span, ini_X10, by decide +kernel, by decide +kernel, by decide +kernel⟩
theorem mv_X10_moved : MV yX10_moved cX10_moved 3 (some .int) 2 := ⟨cd_X10_moved, im_X10_moved, se_X10_moved, ini_X10, by decide +kernel, by decide +kernel, by decide +kernel⟩
theorem mv_X10_share : MV yX10_share cX10_share 4 (some .int) 3 := ⟨cd_X10_share, im_X10_share, se_X10_share, ini_X10, by decide +kernel, by decide +kernel, by decide +kernel⟩
theorem mv_X10_bullets : MV yX10_bullets cX10_bullets 3 (some .int) 2 := ⟨cd_X10_bullets, im_X10_bullets, se_X10_bullets, ini_X10, by decide +kernel, by decide +kernel, by decide +kernel⟩
theorem mv_X10_row : MV yX10_row cX10_row 5 (some .int) 3 := ⟨cd_X10_row, im_X10_row, se_X10_row, ini_X10, by decide +kernel, by decide +kernel, by decide +kernel⟩
theorem mv_X10_goings : MV yX10_goings cX10_goings 3 (some .int) 2 := ⟨cd_X10_goings, im_X10_goings, se_X10_goings, ini_X10, by decide +kernel, by decide +kernel, by decide +kernel⟩
theorem mv_X10_common : MV yX10_common cX10_common 3 (some .int) 2 := ⟨cd_X10_common, im_X10_common, se_X10_common, ini_X10, by decide +kernel, by decide +kernel, by decide +kernel⟩
theorem mv_X10_image : MV yX10_image cX10_image 1 (some .int) 0 := ⟨cd_X10_image, im_X10_image, se_X10_image, ini_X10, by decide +kernel, by decide +kernel, by decide +kernel⟩
theorem mv_X10_octet : MV yX10_octet cX10_octet 2 (some .int) 1 := ⟨cd_X10_octet, im_X10_octet, se_X10_octet, ini_X10, by decide +kernel, by decide +kernel, by decide +kernel⟩
theorem mv_X10_on : MV yX10_on cX10_on 2 (some .boolean) 0 := ⟨cd_X10_on, im_X10_on, se_X10_on, ini_X10, by decide +kernel, by decide +kernel, by decide +kernel⟩
theorem mv_X10_status : MV yX10_status cX10_status 2 (some .int) 1 := ⟨cd_X10_status, im_X10_status, se_X10_status, ini_X10, by decide +kernel, by decide +kernel, by decide +kernel⟩
theorem ms_X11_is : MS yX11_is cX11_is 3 (some .boolean) 3 := ⟨cd_X11_is, sm_X11_is, ini_X11, by decide +kernel, by decide +kernel, by decide +kernel⟩
theorem mv_X11_put : MV yX11_put cX11_put 3 none 1 := ⟨cd_X11_put, im_X11_put, se_X11_put, ini_X11, by decide +kernel, by decide +kernel, by decide +kernel⟩
theorem mv_X11_refuses : MV yX11_refuses cX11_refuses 2 (some .int) 1 := ⟨cd_X11_refuses, im_X11_refuses, se_X11_refuses, ini_X11, by decide +kernel, by decide +kernel, by decide +kernel⟩
theorem mv_X11_feed : MV yX11_feed cX11_feed 6 (some .int) 5 := ⟨cd_X11_feed, im_X11_feed, se_X11_feed, ini_X11, by decide +kernel, by decide +kernel, by decide +kernel⟩
theorem mv_X11_end : MV yX11_end cX11_end 2 (some .boolean) 1 := ⟨cd_X11_end, im_X11_end, se_X11_end, ini_X11, by decide +kernel, by decide +kernel, by decide +kernel⟩
theorem mv_X11_blame : MV yX11_blame cX11_blame 3 none 2 := ⟨cd_X11_blame, im_X11_blame, se_X11_blame, ini_X11, by decide +kernel, by decide +kernel, by decide +kernel⟩
theorem ms_X11_isLetter : MS yX11_isLetter cX11_isLetter 1 (some .boolean) 1 := ⟨cd_X11_isLetter, sm_X11_isLetter, ini_X11, by decide +kernel, by decide +kernel, by decide +kernel⟩
theorem ms_X11_isDigit : MS yX11_isDigit cX11_isDigit 1 (some .boolean) 1 := ⟨cd_X11_isDigit, sm_X11_isDigit, ini_X11, by decide +kernel, by decide +kernel, by decide +kernel⟩
theorem mv_X11_ahead : MV yX11_ahead cX11_ahead 6 none 0 := ⟨cd_X11_ahead, im_X11_ahead, se_X11_ahead, ini_X11, by decide +kernel, by decide +kernel, by decide +kernel⟩
theorem mv_X11_isSign : MV yX11_isSign cX11_isSign 2 (some .boolean) 1 := ⟨cd_X11_isSign, im_X11_isSign, se_X11_isSign, ini_X11, by decide +kernel, by decide +kernel, by decide +kernel⟩
theorem mv_X11_isWord : MV yX11_isWord cX11_isWord 3 (some .boolean) 1 := ⟨cd_X11_isWord, im_X11_isWord, se_X11_isWord, ini_X11, by decide +kernel, by decide +kernel, by decide +kernel⟩
theorem mv_X11_must : MV yX11_must cX11_must 2 none 1 := ⟨cd_X11_must, im_X11_must, se_X11_must, ini_X11, by decide +kernel, by decide +kernel, by decide +kernel⟩
theorem mv_X11_isOwn : MV yX11_isOwn cX11_isOwn 3 (some .boolean) 1 := ⟨cd_X11_isOwn, im_X11_isOwn, se_X11_isOwn, ini_X11, by decide +kernel, by decide +kernel, by decide +kernel⟩
theorem mv_X11_nameOf : MV yX11_nameOf cX11_nameOf 4 (some .long) 3 := ⟨cd_X11_nameOf, im_X11_nameOf, se_X11_nameOf, ini_X11, by decide +kernel, by decide +kernel, by decide +kernel⟩
theorem mv_X11_named : MV yX11_named cX11_named 6 (some .int) 2 := ⟨cd_X11_named, im_X11_named, se_X11_named, ini_X11, by decide +kernel, by decide +kernel, by decide +kernel⟩
theorem mv_X11_number : MV yX11_number cX11_number 4 (some .int) 2 := ⟨cd_X11_number, im_X11_number, se_X11_number, ini_X11, by decide +kernel, by decide +kernel, by decide +kernel⟩
theorem mv_X11_add : MV yX11_add cX11_add 3 none 2 := ⟨cd_X11_add, im_X11_add, se_X11_add, ini_X11, by decide +kernel, by decide +kernel, by decide +kernel⟩
theorem ms_X11_rank : MS yX11_rank cX11_rank 1 (some .int) 1 := ⟨cd_X11_rank, sm_X11_rank, ini_X11, by decide +kernel, by decide +kernel, by decide +kernel⟩
theorem mv_X11_joins : MV yX11_joins cX11_joins 2 none 1 := ⟨cd_X11_joins, im_X11_joins, se_X11_joins, ini_X11, by decide +kernel, by decide +kernel, by decide +kernel⟩
theorem mv_X11_holdsBack : MV yX11_holdsBack cX11_holdsBack 2 none 1 := ⟨cd_X11_holdsBack, im_X11_holdsBack, se_X11_holdsBack, ini_X11, by decide +kernel, by decide +kernel, by decide +kernel⟩
theorem mv_X11_pushes : MV yX11_pushes cX11_pushes 2 none 1 := ⟨cd_X11_pushes, im_X11_pushes, se_X11_pushes, ini_X11, by decide +kernel, by decide +kernel, by decide +kernel⟩
theorem mv_X11_opens : MV yX11_opens cX11_opens 2 none 1 := ⟨cd_X11_opens, im_X11_opens, se_X11_opens, ini_X11, by decide +kernel, by decide +kernel, by decide +kernel⟩
theorem ms_X11_isTest : MS yX11_isTest cX11_isTest 1 (some .boolean) 1 := ⟨cd_X11_isTest, sm_X11_isTest, ini_X11, by decide +kernel, by decide +kernel, by decide +kernel⟩
theorem mv_X11_operand : MV yX11_operand cX11_operand 4 (some .boolean) 0 := ⟨cd_X11_operand, im_X11_operand, se_X11_operand, ini_X11, by decide +kernel, by decide +kernel, by decide +kernel⟩
theorem mv_X11_goesOn : MV yX11_goesOn cX11_goesOn 5 (some .boolean) 0 := ⟨cd_X11_goesOn, im_X11_goesOn, se_X11_goesOn, ini_X11, by decide +kernel, by decide +kernel, by decide +kernel⟩
theorem mv_X11_reads : MV yX11_reads cX11_reads 3 none 1 := ⟨cd_X11_reads, im_X11_reads, se_X11_reads, ini_X11, by decide +kernel, by decide +kernel, by decide +kernel⟩
theorem mv_X11_counts : MV yX11_counts cX11_counts 2 (some .boolean) 1 := ⟨cd_X11_counts, im_X11_counts, se_X11_counts, ini_X11, by decide +kernel, by decide +kernel, by decide +kernel⟩
theorem mv_X11_must_ : MV yX11_must_ cX11_must_ 3 none 1 := ⟨cd_X11_must_, im_X11_must_, se_X11_must_, ini_X11, by decide +kernel, by decide +kernel, by decide +kernel⟩
theorem mv_X11_fresh : MV yX11_fresh cX11_fresh 3 (some .long) 0 := ⟨cd_X11_fresh, im_X11_fresh, se_X11_fresh, ini_X11, by decide +kernel, by decide +kernel, by decide +kernel⟩
theorem mv_X11_asked : MV yX11_asked cX11_asked 3 (some .int) 1 := ⟨cd_X11_asked, im_X11_asked, se_X11_asked, ini_X11, by decide +kernel, by decide +kernel, by decide +kernel⟩
theorem mv_X11_oneLetter : MV yX11_oneLetter cX11_oneLetter 2 (some .int) 0 := ⟨cd_X11_oneLetter, im_X11_oneLetter, se_X11_oneLetter, ini_X11, by decide +kernel, by decide +kernel, by decide +kernel⟩
theorem mv_X11_weighs : MV yX11_weighs cX11_weighs 3 none 0 := ⟨cd_X11_weighs, im_X11_weighs, se_X11_weighs, ini_X11, by decide +kernel, by decide +kernel, by decide +kernel⟩
theorem mv_X11_person : MV yX11_person cX11_person 2 none 0 := ⟨cd_X11_person, im_X11_person, se_X11_person, ini_X11, by decide +kernel, by decide +kernel, by decide +kernel⟩
theorem mv_X11_title : MV yX11_title cX11_title 2 none 0 := ⟨cd_X11_title, im_X11_title, se_X11_title, ini_X11, by decide +kernel, by decide +kernel, by decide +kernel⟩
theorem mv_X11_having : MV yX11_having cX11_having 3 none 0 := ⟨cd_X11_having, im_X11_having, se_X11_having, ini_X11, by decide +kernel, by decide +kernel, by decide +kernel⟩
theorem mv_X11_heaping : MV yX11_heaping cX11_heaping 3 none 0 := ⟨cd_X11_heaping, im_X11_heaping, se_X11_heaping, ini_X11, by decide +kernel, by decide +kernel, by decide +kernel⟩
theorem mv_X11_ageing : MV yX11_ageing cX11_ageing 2 none 0 := ⟨cd_X11_ageing, im_X11_ageing, se_X11_ageing, ini_X11, by decide +kernel, by decide +kernel, by decide +kernel⟩
theorem mv_X11_law : MV yX11_law cX11_law 2 none 0 := ⟨cd_X11_law, im_X11_law, se_X11_law, ini_X11, by decide +kernel, by decide +kernel, by decide +kernel⟩
theorem mv_X11_bridge : MV yX11_bridge cX11_bridge 2 none 0 := ⟨cd_X11_bridge, im_X11_bridge, se_X11_bridge, ini_X11, by decide +kernel, by decide +kernel, by decide +kernel⟩
theorem mv_X11_dating : MV yX11_dating cX11_dating 1 none 0 := ⟨cd_X11_dating, im_X11_dating, se_X11_dating, ini_X11, by decide +kernel, by decide +kernel, by decide +kernel⟩
theorem mv_X11_others : MV yX11_others cX11_others 1 none 0 := ⟨cd_X11_others, im_X11_others, se_X11_others, ini_X11, by decide +kernel, by decide +kernel, by decide +kernel⟩
theorem mv_X11_statement : MV yX11_statement cX11_statement 1 none 0 := ⟨cd_X11_statement, im_X11_statement, se_X11_statement, ini_X11, by decide +kernel, by decide +kernel, by decide +kernel⟩
theorem mv_X11_begins : MV yX11_begins cX11_begins 3 none 0 := ⟨cd_X11_begins, im_X11_begins, se_X11_begins, ini_X11, by decide +kernel, by decide +kernel, by decide +kernel⟩
theorem mv_X11_land : MV yX11_land cX11_land 2 (some .int) 0 := ⟨cd_X11_land, im_X11_land, se_X11_land, ini_X11, by decide +kernel, by decide +kernel, by decide +kernel⟩
theorem mv_X11_fault : MV yX11_fault cX11_fault 2 (some .int) 1 := ⟨cd_X11_fault, im_X11_fault, se_X11_fault, ini_X11, by decide +kernel, by decide +kernel, by decide +kernel⟩
theorem mv_X11_status : MV yX11_status cX11_status 2 (some .int) 1 := ⟨cd_X11_status, im_X11_status, se_X11_status, ini_X11, by decide +kernel, by decide +kernel, by decide +kernel⟩
theorem ms_X11_bounded : MS yX11_bounded cX11_bounded 2 (some .long) 1 := ⟨cd_X11_bounded, sm_X11_bounded, ini_X11, by decide +kernel, by decide +kernel, by decide +kernel⟩
theorem ms_X11_over : MS yX11_over cX11_over 6 (some .long) 2 := ⟨cd_X11_over, sm_X11_over, ini_X11, by decide +kernel, by decide +kernel, by decide +kernel⟩
theorem ms_X11_made : MS yX11_made cX11_made 5 (some .long) 3 := ⟨cd_X11_made, sm_X11_made, ini_X11, by decide +kernel, by decide +kernel, by decide +kernel⟩
theorem mv_X11_works : MV yX11_works cX11_works 6 (some .long) 2 := ⟨cd_X11_works, im_X11_works, se_X11_works, ini_X11, by decide +kernel, by decide +kernel, by decide +kernel⟩
theorem mv_X11_isPerson : MV yX11_isPerson cX11_isPerson 2 (some .boolean) 1 := ⟨cd_X11_isPerson, im_X11_isPerson, se_X11_isPerson, ini_X11, by decide +kernel, by decide +kernel, by decide +kernel⟩
theorem mv_X11_isTitle : MV yX11_isTitle cX11_isTitle 2 (some .boolean) 1 := ⟨cd_X11_isTitle, im_X11_isTitle, se_X11_isTitle, ini_X11, by decide +kernel, by decide +kernel, by decide +kernel⟩
theorem ms_X11_isLetterCode : MS yX11_isLetterCode cX11_isLetterCode 1 (some .boolean) 1 := ⟨cd_X11_isLetterCode, sm_X11_isLetterCode, ini_X11, by decide +kernel, by decide +kernel, by decide +kernel⟩
theorem mv_X11_hasTitle : MV yX11_hasTitle cX11_hasTitle 3 (some .boolean) 2 := ⟨cd_X11_hasTitle, im_X11_hasTitle, se_X11_hasTitle, ini_X11, by decide +kernel, by decide +kernel, by decide +kernel⟩
theorem mv_X11_weight : MV yX11_weight cX11_weight 2 (some .int) 1 := ⟨cd_X11_weight, im_X11_weight, se_X11_weight, ini_X11, by decide +kernel, by decide +kernel, by decide +kernel⟩
theorem mv_X11_often : MV yX11_often cX11_often 6 (some .int) 2 := ⟨cd_X11_often, im_X11_often, se_X11_often, ini_X11, by decide +kernel, by decide +kernel, by decide +kernel⟩
theorem mv_X11_lengthOf : MV yX11_lengthOf cX11_lengthOf 5 (some .int) 1 := ⟨cd_X11_lengthOf, im_X11_lengthOf, se_X11_lengthOf, ini_X11, by decide +kernel, by decide +kernel, by decide +kernel⟩
theorem mv_X11_ouncesOf : MV yX11_ouncesOf cX11_ouncesOf 5 (some .int) 1 := ⟨cd_X11_ouncesOf, im_X11_ouncesOf, se_X11_ouncesOf, ini_X11, by decide +kernel, by decide +kernel, by decide +kernel⟩
theorem mv_X11_honourOf : MV yX11_honourOf cX11_honourOf 2 (some .int) 1 := ⟨cd_X11_honourOf, im_X11_honourOf, se_X11_honourOf, ini_X11, by decide +kernel, by decide +kernel, by decide +kernel⟩
theorem mv_X11_looseOunces : MV yX11_looseOunces cX11_looseOunces 4 (some .int) 1 := ⟨cd_X11_looseOunces, im_X11_looseOunces, se_X11_looseOunces, ini_X11, by decide +kernel, by decide +kernel, by decide +kernel⟩
theorem mv_X11_sumOf : MV yX11_sumOf cX11_sumOf 5 (some .int) 2 := ⟨cd_X11_sumOf, im_X11_sumOf, se_X11_sumOf, ini_X11, by decide +kernel, by decide +kernel, by decide +kernel⟩
theorem mv_X11_loadOf : MV yX11_loadOf cX11_loadOf 2 (some .int) 1 := ⟨cd_X11_loadOf, im_X11_loadOf, se_X11_loadOf, ini_X11, by decide +kernel, by decide +kernel, by decide +kernel⟩
theorem ms_X11_bitsOf : MS yX11_bitsOf cX11_bitsOf 3 (some .int) 1 := ⟨cd_X11_bitsOf, sm_X11_bitsOf, ini_X11, by decide +kernel, by decide +kernel, by decide +kernel⟩
theorem mv_X11_ageOf : MV yX11_ageOf cX11_ageOf 3 (some .int) 1 := ⟨cd_X11_ageOf, im_X11_ageOf, se_X11_ageOf, ini_X11, by decide +kernel, by decide +kernel, by decide +kernel⟩
theorem mv_X11_limitOf : MV yX11_limitOf cX11_limitOf 7 (some .int) 1 := ⟨cd_X11_limitOf, im_X11_limitOf, se_X11_limitOf, ini_X11, by decide +kernel, by decide +kernel, by decide +kernel⟩
theorem mv_X11_bestSet : MV yX11_bestSet cX11_bestSet 7 (some .int) 2 := ⟨cd_X11_bestSet, im_X11_bestSet, se_X11_bestSet, ini_X11, by decide +kernel, by decide +kernel, by decide +kernel⟩
theorem mv_X11_has : MV yX11_has cX11_has 2 (some .int) 1 := ⟨cd_X11_has, im_X11_has, se_X11_has, ini_X11, by decide +kernel, by decide +kernel, by decide +kernel⟩
theorem mv_X11_manyOf : MV yX11_manyOf cX11_manyOf 2 (some .int) 1 := ⟨cd_X11_manyOf, im_X11_manyOf, se_X11_manyOf, ini_X11, by decide +kernel, by decide +kernel, by decide +kernel⟩
theorem mv_X11_letter : MV yX11_letter cX11_letter 9 (some .int) 3 := ⟨cd_X11_letter, im_X11_letter, se_X11_letter, ini_X11, by decide +kernel, by decide +kernel, by decide +kernel⟩
theorem mv_X11_ounces : MV yX11_ounces cX11_ounces 2 (some .int) 1 := ⟨cd_X11_ounces, im_X11_ounces, se_X11_ounces, ini_X11, by decide +kernel, by decide +kernel, by decide +kernel⟩
theorem mv_X11_title_ : MV yX11_title_ cX11_title_ 5 (some .int) 2 := ⟨cd_X11_title_, im_X11_title_, se_X11_title_, ini_X11, by decide +kernel, by decide +kernel, by decide +kernel⟩
theorem mv_X11_looseMany : MV yX11_looseMany cX11_looseMany 4 (some .int) 1 := ⟨cd_X11_looseMany, im_X11_looseMany, se_X11_looseMany, ini_X11, by decide +kernel, by decide +kernel, by decide +kernel⟩
theorem mv_X11_allOf : MV yX11_allOf cX11_allOf 5 (some .int) 2 := ⟨cd_X11_allOf, im_X11_allOf, se_X11_allOf, ini_X11, by decide +kernel, by decide +kernel, by decide +kernel⟩
theorem mv_X11_calledBy : MV yX11_calledBy cX11_calledBy 6 (some .int) 1 := ⟨cd_X11_calledBy, im_X11_calledBy, se_X11_calledBy, ini_X11, by decide +kernel, by decide +kernel, by decide +kernel⟩
theorem mv_X11_person_ : MV yX11_person_ cX11_person_ 3 (some .int) 2 := ⟨cd_X11_person_, im_X11_person_, se_X11_person_, ini_X11, by decide +kernel, by decide +kernel, by decide +kernel⟩
theorem mv_X11_loose : MV yX11_loose cX11_loose 3 (some .int) 2 := ⟨cd_X11_loose, im_X11_loose, se_X11_loose, ini_X11, by decide +kernel, by decide +kernel, by decide +kernel⟩
theorem mv_X11_coatsAll : MV yX11_coatsAll cX11_coatsAll 3 (some .int) 0 := ⟨cd_X11_coatsAll, im_X11_coatsAll, se_X11_coatsAll, ini_X11, by decide +kernel, by decide +kernel, by decide +kernel⟩
theorem mv_X11_bulletsAll : MV yX11_bulletsAll cX11_bulletsAll 3 (some .int) 0 := ⟨cd_X11_bulletsAll, im_X11_bulletsAll, se_X11_bulletsAll, ini_X11, by decide +kernel, by decide +kernel, by decide +kernel⟩
theorem mv_X11_lead : MV yX11_lead cX11_lead 2 (some .int) 1 := ⟨cd_X11_lead, im_X11_lead, se_X11_lead, ini_X11, by decide +kernel, by decide +kernel, by decide +kernel⟩
theorem mv_X11_notes : MV yX11_notes cX11_notes 6 none 4 := ⟨cd_X11_notes, im_X11_notes, se_X11_notes, ini_X11, by decide +kernel, by decide +kernel, by decide +kernel⟩
theorem mv_X11_comes : MV yX11_comes cX11_comes 3 none 2 := ⟨cd_X11_comes, im_X11_comes, se_X11_comes, ini_X11, by decide +kernel, by decide +kernel, by decide +kernel⟩
theorem mv_X11_goes : MV yX11_goes cX11_goes 4 none 2 := ⟨cd_X11_goes, im_X11_goes, se_X11_goes, ini_X11, by decide +kernel, by decide +kernel, by decide +kernel⟩
theorem mv_X11_lays : MV yX11_lays cX11_lays 4 none 2 := ⟨cd_X11_lays, im_X11_lays, se_X11_lays, ini_X11, by decide +kernel, by decide +kernel, by decide +kernel⟩
theorem mv_X11_lacks : MV yX11_lacks cX11_lacks 5 (some .int) 3 := ⟨cd_X11_lacks, im_X11_lacks, se_X11_lacks, ini_X11, by decide +kernel, by decide +kernel, by decide +kernel⟩
theorem mv_X11_lackOunces : MV yX11_lackOunces cX11_lackOunces 5 (some .int) 2 := ⟨cd_X11_lackOunces, im_X11_lackOunces, se_X11_lackOunces, ini_X11, by decide +kernel, by decide +kernel, by decide +kernel⟩
theorem mv_X11_canGain : MV yX11_canGain cX11_canGain 4 (some .boolean) 2 := ⟨cd_X11_canGain, im_X11_canGain, se_X11_canGain, ini_X11, by decide +kernel, by decide +kernel, by decide +kernel⟩
theorem mv_X11_gains : MV yX11_gains cX11_gains 6 none 2 := ⟨cd_X11_gains, im_X11_gains, se_X11_gains, ini_X11, by decide +kernel, by decide +kernel, by decide +kernel⟩
theorem mv_X11_gain : MV yX11_gain cX11_gain 3 (some .int) 2 := ⟨cd_X11_gain, im_X11_gain, se_X11_gain, ini_X11, by decide +kernel, by decide +kernel, by decide +kernel⟩
theorem mv_X11_sheds : MV yX11_sheds cX11_sheds 3 none 2 := ⟨cd_X11_sheds, im_X11_sheds, se_X11_sheds, ini_X11, by decide +kernel, by decide +kernel, by decide +kernel⟩
theorem mv_X11_shed : MV yX11_shed cX11_shed 3 (some .int) 2 := ⟨cd_X11_shed, im_X11_shed, se_X11_shed, ini_X11, by decide +kernel, by decide +kernel, by decide +kernel⟩
theorem mv_X11_unpicked : MV yX11_unpicked cX11_unpicked 4 (some .int) 2 := ⟨cd_X11_unpicked, im_X11_unpicked, se_X11_unpicked, ini_X11, by decide +kernel, by decide +kernel, by decide +kernel⟩
theorem mv_X11_steal : MV yX11_steal cX11_steal 6 (some .boolean) 3 := ⟨cd_X11_steal, im_X11_steal, se_X11_steal, ini_X11, by decide +kernel, by decide +kernel, by decide +kernel⟩
theorem mv_X11_trade : MV yX11_trade cX11_trade 7 (some .boolean) 4 := ⟨cd_X11_trade, im_X11_trade, se_X11_trade, ini_X11, by decide +kernel, by decide +kernel, by decide +kernel⟩
theorem mv_X11_lend : MV yX11_lend cX11_lend 4 (some .int) 3 := ⟨cd_X11_lend, im_X11_lend, se_X11_lend, ini_X11, by decide +kernel, by decide +kernel, by decide +kernel⟩
theorem mv_X11_canBack : MV yX11_canBack cX11_canBack 2 (some .boolean) 1 := ⟨cd_X11_canBack, im_X11_canBack, se_X11_canBack, ini_X11, by decide +kernel, by decide +kernel, by decide +kernel⟩
theorem mv_X11_giveBack : MV yX11_giveBack cX11_giveBack 6 (some .boolean) 1 := ⟨cd_X11_giveBack, im_X11_giveBack, se_X11_giveBack, ini_X11, by decide +kernel, by decide +kernel, by decide +kernel⟩
theorem mv_X11_loan : MV yX11_loan cX11_loan 3 (some .int) 2 := ⟨cd_X11_loan, im_X11_loan, se_X11_loan, ini_X11, by decide +kernel, by decide +kernel, by decide +kernel⟩
theorem mv_X11_drown : MV yX11_drown cX11_drown 4 (some .int) 1 := ⟨cd_X11_drown, im_X11_drown, se_X11_drown, ini_X11, by decide +kernel, by decide +kernel, by decide +kernel⟩
theorem mv_X11_melt : MV yX11_melt cX11_melt 3 (some .int) 2 := ⟨cd_X11_melt, im_X11_melt, se_X11_melt, ini_X11, by decide +kernel, by decide +kernel, by decide +kernel⟩
theorem mv_X11_empties : MV yX11_empties cX11_empties 3 none 1 := ⟨cd_X11_empties, im_X11_empties, se_X11_empties, ini_X11, by decide +kernel, by decide +kernel, by decide +kernel⟩
theorem mv_X11_heir : MV yX11_heir cX11_heir 6 (some .int) 2 := ⟨cd_X11_heir, im_X11_heir, se_X11_heir, ini_X11, by decide +kernel, by decide +kernel, by decide +kernel⟩
theorem mv_X11_yearOf : MV yX11_yearOf cX11_yearOf 6 (some .int) 1 := ⟨cd_X11_yearOf, im_X11_yearOf, se_X11_yearOf, ini_X11, by decide +kernel, by decide +kernel, by decide +kernel⟩
theorem mv_X11_years : MV yX11_years cX11_years 5 (some .int) 1 := ⟨cd_X11_years, im_X11_years, se_X11_years, ini_X11, by decide +kernel, by decide +kernel, by decide +kernel⟩
theorem mv_X11_drawn : MV yX11_drawn cX11_drawn 2 (some .int) 1 := ⟨cd_X11_drawn, im_X11_drawn, se_X11_drawn, ini_X11, by decide +kernel, by decide +kernel, by decide +kernel⟩
theorem mv_X11_feastOf : MV yX11_feastOf cX11_feastOf 5 (some .int) 1 := ⟨cd_X11_feastOf, im_X11_feastOf, se_X11_feastOf, ini_X11, by decide +kernel, by decide +kernel, by decide +kernel⟩
theorem mv_X11_feast : MV yX11_feast cX11_feast 3 (some .int) 0 := ⟨cd_X11_feast, im_X11_feast, se_X11_feast, ini_X11, by decide +kernel, by decide +kernel, by decide +kernel⟩
theorem mv_X11_seed : MV yX11_seed cX11_seed 2 (some .boolean) 1 := ⟨cd_X11_seed, im_X11_seed, se_X11_seed, ini_X11, by decide +kernel, by decide +kernel, by decide +kernel⟩
theorem mv_X11_signed : MV yX11_signed cX11_signed 5 (some .int) 2 := ⟨cd_X11_signed, im_X11_signed, se_X11_signed, ini_X11, by decide +kernel, by decide +kernel, by decide +kernel⟩
theorem mv_X11_span : MV yX11_span cX11_span 3 (some .int) 2 := ⟨cd_X11_span, im_X11_span, se_X11_span, ini_X11, by decide +kernel, by decide +kernel, by decide +kernel⟩
theorem mv_X11_moved : MV yX11_moved cX11_moved 3 (some .int) 2 := ⟨cd_X11_moved, im_X11_moved, se_X11_moved, ini_X11, by decide +kernel, by decide +kernel, by decide +kernel⟩
theorem mv_X11_likelyOf : MV yX11_likelyOf cX11_likelyOf 8 (some .long) 3 := ⟨cd_X11_likelyOf, im_X11_likelyOf, se_X11_likelyOf, ini_X11, by decide +kernel, by decide +kernel, by decide +kernel⟩
theorem mv_X11_share : MV yX11_share cX11_share 7 (some .int) 3 := ⟨cd_X11_share, im_X11_share, se_X11_share, ini_X11, by decide +kernel, by decide +kernel, by decide +kernel⟩
theorem mv_X11_bullets : MV yX11_bullets cX11_bullets 9 (some .int) 2 := ⟨cd_X11_bullets, im_X11_bullets, se_X11_bullets, ini_X11, by decide +kernel, by decide +kernel, by decide +kernel⟩
theorem mv_X11_letterOf : MV yX11_letterOf cX11_letterOf 3 (some .int) 2 := ⟨cd_X11_letterOf, im_X11_letterOf, se_X11_letterOf, ini_X11, by decide +kernel, by decide +kernel, by decide +kernel⟩
theorem mv_X11_tries : MV yX11_tries cX11_tries 9 none 3 := ⟨cd_X11_tries, im_X11_tries, se_X11_tries, ini_X11, by decide +kernel, by decide +kernel, by decide +kernel⟩
theorem mv_X11_row : MV yX11_row cX11_row 5 (some .int) 3 := ⟨cd_X11_row, im_X11_row, se_X11_row, ini_X11, by decide +kernel, by decide +kernel, by decide +kernel⟩
theorem mv_X11_goings : MV yX11_goings cX11_goings 8 (some .int) 2 := ⟨cd_X11_goings, im_X11_goings, se_X11_goings, ini_X11, by decide +kernel, by decide +kernel, by decide +kernel⟩
theorem mv_X11_common : MV yX11_common cX11_common 7 (some .int) 2 := ⟨cd_X11_common, im_X11_common, se_X11_common, ini_X11, by decide +kernel, by decide +kernel, by decide +kernel⟩
theorem mv_X11_writes : MV yX11_writes cX11_writes 2 none 1 := ⟨cd_X11_writes, im_X11_writes, se_X11_writes, ini_X11, by decide +kernel, by decide +kernel, by decide +kernel⟩
theorem mv_X11_writes2 : MV yX11_writes2 cX11_writes2 2 none 1 := ⟨cd_X11_writes2, im_X11_writes2, se_X11_writes2, ini_X11, by decide +kernel, by decide +kernel, by decide +kernel⟩
theorem mv_X11_image : MV yX11_image cX11_image 3 (some .int) 0 := ⟨cd_X11_image, im_X11_image, se_X11_image, ini_X11, by decide +kernel, by decide +kernel, by decide +kernel⟩
theorem mv_X11_octet : MV yX11_octet cX11_octet 2 (some .int) 1 := ⟨cd_X11_octet, im_X11_octet, se_X11_octet, ini_X11, by decide +kernel, by decide +kernel, by decide +kernel⟩
theorem mv_X11_two : MV yX11_two cX11_two 2 (some .int) 1 := ⟨cd_X11_two, im_X11_two, se_X11_two, ini_X11, by decide +kernel, by decide +kernel, by decide +kernel⟩
theorem mv_X11_rowAt : MV yX11_rowAt cX11_rowAt 6 (some .long) 2 := ⟨cd_X11_rowAt, im_X11_rowAt, se_X11_rowAt, ini_X11, by decide +kernel, by decide +kernel, by decide +kernel⟩
theorem mv_X11_isWhole : MV yX11_isWhole cX11_isWhole 12 (some .boolean) 1 := ⟨cd_X11_isWhole, im_X11_isWhole, se_X11_isWhole, ini_X11, by decide +kernel, by decide +kernel, by decide +kernel⟩
theorem mv_X11_on : MV yX11_on cX11_on 4 (some .boolean) 0 := ⟨cd_X11_on, im_X11_on, se_X11_on, ini_X11, by decide +kernel, by decide +kernel, by decide +kernel⟩
theorem bp_m18 : (Int8.ofInt (-18)).toInt32 = (-18 : Int32) := by decide +kernel
theorem bp_m17 : (Int8.ofInt (-17)).toInt32 = (-17 : Int32) := by decide +kernel
theorem bp_m16 : (Int8.ofInt (-16)).toInt32 = (-16 : Int32) := by decide +kernel
theorem bp_m15 : (Int8.ofInt (-15)).toInt32 = (-15 : Int32) := by decide +kernel
theorem bp_m14 : (Int8.ofInt (-14)).toInt32 = (-14 : Int32) := by decide +kernel
theorem bp_m13 : (Int8.ofInt (-13)).toInt32 = (-13 : Int32) := by decide +kernel
theorem bp_m12 : (Int8.ofInt (-12)).toInt32 = (-12 : Int32) := by decide +kernel
theorem bp_m11 : (Int8.ofInt (-11)).toInt32 = (-11 : Int32) := by decide +kernel
theorem bp_m10 : (Int8.ofInt (-10)).toInt32 = (-10 : Int32) := by decide +kernel
theorem bp_m9 : (Int8.ofInt (-9)).toInt32 = (-9 : Int32) := by decide +kernel
theorem bp_m8 : (Int8.ofInt (-8)).toInt32 = (-8 : Int32) := by decide +kernel
theorem bp_m7 : (Int8.ofInt (-7)).toInt32 = (-7 : Int32) := by decide +kernel
theorem bp_m6 : (Int8.ofInt (-6)).toInt32 = (-6 : Int32) := by decide +kernel
theorem bp_m5 : (Int8.ofInt (-5)).toInt32 = (-5 : Int32) := by decide +kernel
theorem bp_m4 : (Int8.ofInt (-4)).toInt32 = (-4 : Int32) := by decide +kernel
theorem bp_m3 : (Int8.ofInt (-3)).toInt32 = (-3 : Int32) := by decide +kernel
theorem bp_m2 : (Int8.ofInt (-2)).toInt32 = (-2 : Int32) := by decide +kernel
theorem bp_6 : (Int8.ofInt (6)).toInt32 = (6 : Int32) := by decide +kernel
theorem bp_7 : (Int8.ofInt (7)).toInt32 = (7 : Int32) := by decide +kernel
theorem bp_8 : (Int8.ofInt (8)).toInt32 = (8 : Int32) := by decide +kernel
theorem bp_9 : (Int8.ofInt (9)).toInt32 = (9 : Int32) := by decide +kernel
theorem bp_10 : (Int8.ofInt (10)).toInt32 = (10 : Int32) := by decide +kernel
theorem bp_11 : (Int8.ofInt (11)).toInt32 = (11 : Int32) := by decide +kernel
theorem bp_12 : (Int8.ofInt (12)).toInt32 = (12 : Int32) := by decide +kernel
theorem bp_13 : (Int8.ofInt (13)).toInt32 = (13 : Int32) := by decide +kernel
theorem bp_14 : (Int8.ofInt (14)).toInt32 = (14 : Int32) := by decide +kernel
theorem bp_15 : (Int8.ofInt (15)).toInt32 = (15 : Int32) := by decide +kernel
theorem bp_16 : (Int8.ofInt (16)).toInt32 = (16 : Int32) := by decide +kernel
theorem bp_17 : (Int8.ofInt (17)).toInt32 = (17 : Int32) := by decide +kernel
theorem bp_18 : (Int8.ofInt (18)).toInt32 = (18 : Int32) := by decide +kernel
theorem bp_19 : (Int8.ofInt (19)).toInt32 = (19 : Int32) := by decide +kernel
theorem bp_20 : (Int8.ofInt (20)).toInt32 = (20 : Int32) := by decide +kernel
theorem bp_21 : (Int8.ofInt (21)).toInt32 = (21 : Int32) := by decide +kernel
theorem bp_22 : (Int8.ofInt (22)).toInt32 = (22 : Int32) := by decide +kernel
theorem bp_23 : (Int8.ofInt (23)).toInt32 = (23 : Int32) := by decide +kernel
theorem bp_24 : (Int8.ofInt (24)).toInt32 = (24 : Int32) := by decide +kernel
theorem bp_26 : (Int8.ofInt (26)).toInt32 = (26 : Int32) := by decide +kernel
theorem bp_30 : (Int8.ofInt (30)).toInt32 = (30 : Int32) := by decide +kernel
theorem bp_31 : (Int8.ofInt (31)).toInt32 = (31 : Int32) := by decide +kernel
theorem bp_32 : (Int8.ofInt (32)).toInt32 = (32 : Int32) := by decide +kernel
theorem bp_37 : (Int8.ofInt (37)).toInt32 = (37 : Int32) := by decide +kernel
theorem bp_40 : (Int8.ofInt (40)).toInt32 = (40 : Int32) := by decide +kernel
theorem bp_41 : (Int8.ofInt (41)).toInt32 = (41 : Int32) := by decide +kernel
theorem bp_42 : (Int8.ofInt (42)).toInt32 = (42 : Int32) := by decide +kernel
theorem bp_43 : (Int8.ofInt (43)).toInt32 = (43 : Int32) := by decide +kernel
theorem bp_44 : (Int8.ofInt (44)).toInt32 = (44 : Int32) := by decide +kernel
theorem bp_45 : (Int8.ofInt (45)).toInt32 = (45 : Int32) := by decide +kernel
theorem bp_47 : (Int8.ofInt (47)).toInt32 = (47 : Int32) := by decide +kernel
theorem bp_48 : (Int8.ofInt (48)).toInt32 = (48 : Int32) := by decide +kernel
theorem bp_52 : (Int8.ofInt (52)).toInt32 = (52 : Int32) := by decide +kernel
theorem bp_53 : (Int8.ofInt (53)).toInt32 = (53 : Int32) := by decide +kernel
theorem bp_54 : (Int8.ofInt (54)).toInt32 = (54 : Int32) := by decide +kernel
theorem bp_55 : (Int8.ofInt (55)).toInt32 = (55 : Int32) := by decide +kernel
theorem bp_56 : (Int8.ofInt (56)).toInt32 = (56 : Int32) := by decide +kernel
theorem bp_57 : (Int8.ofInt (57)).toInt32 = (57 : Int32) := by decide +kernel
theorem bp_59 : (Int8.ofInt (59)).toInt32 = (59 : Int32) := by decide +kernel
theorem bp_60 : (Int8.ofInt (60)).toInt32 = (60 : Int32) := by decide +kernel
theorem bp_61 : (Int8.ofInt (61)).toInt32 = (61 : Int32) := by decide +kernel
theorem bp_62 : (Int8.ofInt (62)).toInt32 = (62 : Int32) := by decide +kernel
theorem bp_63 : (Int8.ofInt (63)).toInt32 = (63 : Int32) := by decide +kernel
theorem bp_64 : (Int8.ofInt (64)).toInt32 = (64 : Int32) := by decide +kernel
theorem bp_80 : (Int8.ofInt (80)).toInt32 = (80 : Int32) := by decide +kernel
theorem bp_91 : (Int8.ofInt (91)).toInt32 = (91 : Int32) := by decide +kernel
theorem bp_93 : (Int8.ofInt (93)).toInt32 = (93 : Int32) := by decide +kernel
theorem bp_97 : (Int8.ofInt (97)).toInt32 = (97 : Int32) := by decide +kernel
theorem bp_99 : (Int8.ofInt (99)).toInt32 = (99 : Int32) := by decide +kernel
theorem bp_100 : (Int8.ofInt (100)).toInt32 = (100 : Int32) := by decide +kernel
theorem bp_122 : (Int8.ofInt (122)).toInt32 = (122 : Int32) := by decide +kernel
theorem ic_m8 : Int32.ofInt (-8) = (-8 : Int32) := by decide +kernel
theorem ic_m1 : Int32.ofInt (-1) = (-1 : Int32) := by decide +kernel
theorem ic_0 : Int32.ofInt (0) = (0 : Int32) := by decide +kernel
theorem ic_1 : Int32.ofInt (1) = (1 : Int32) := by decide +kernel
theorem ic_2 : Int32.ofInt (2) = (2 : Int32) := by decide +kernel
theorem ic_3 : Int32.ofInt (3) = (3 : Int32) := by decide +kernel
theorem ic_4 : Int32.ofInt (4) = (4 : Int32) := by decide +kernel
theorem ic_5 : Int32.ofInt (5) = (5 : Int32) := by decide +kernel
theorem sp_200 : (Int16.ofInt (200)).toInt32 = (200 : Int32) := by decide +kernel
theorem sp_208 : (Int16.ofInt (208)).toInt32 = (208 : Int32) := by decide +kernel
theorem sp_239 : (Int16.ofInt (239)).toInt32 = (239 : Int32) := by decide +kernel
theorem sp_255 : (Int16.ofInt (255)).toInt32 = (255 : Int32) := by decide +kernel
theorem sp_256 : (Int16.ofInt (256)).toInt32 = (256 : Int32) := by decide +kernel
theorem sp_295 : (Int16.ofInt (295)).toInt32 = (295 : Int32) := by decide +kernel
theorem sp_300 : (Int16.ofInt (300)).toInt32 = (300 : Int32) := by decide +kernel
theorem sp_301 : (Int16.ofInt (301)).toInt32 = (301 : Int32) := by decide +kernel
theorem sp_302 : (Int16.ofInt (302)).toInt32 = (302 : Int32) := by decide +kernel
theorem sp_303 : (Int16.ofInt (303)).toInt32 = (303 : Int32) := by decide +kernel
theorem sp_316 : (Int16.ofInt (316)).toInt32 = (316 : Int32) := by decide +kernel
theorem sp_400 : (Int16.ofInt (400)).toInt32 = (400 : Int32) := by decide +kernel
theorem sp_402 : (Int16.ofInt (402)).toInt32 = (402 : Int32) := by decide +kernel
theorem sp_403 : (Int16.ofInt (403)).toInt32 = (403 : Int32) := by decide +kernel
theorem sp_404 : (Int16.ofInt (404)).toInt32 = (404 : Int32) := by decide +kernel
theorem sp_406 : (Int16.ofInt (406)).toInt32 = (406 : Int32) := by decide +kernel
theorem sp_413 : (Int16.ofInt (413)).toInt32 = (413 : Int32) := by decide +kernel
theorem sp_414 : (Int16.ofInt (414)).toInt32 = (414 : Int32) := by decide +kernel
theorem sp_415 : (Int16.ofInt (415)).toInt32 = (415 : Int32) := by decide +kernel
theorem sp_416 : (Int16.ofInt (416)).toInt32 = (416 : Int32) := by decide +kernel
theorem sp_417 : (Int16.ofInt (417)).toInt32 = (417 : Int32) := by decide +kernel
theorem sp_551 : (Int16.ofInt (551)).toInt32 = (551 : Int32) := by decide +kernel
theorem sp_999 : (Int16.ofInt (999)).toInt32 = (999 : Int32) := by decide +kernel
theorem sp_1600 : (Int16.ofInt (1600)).toInt32 = (1600 : Int32) := by decide +kernel
theorem sp_4095 : (Int16.ofInt (4095)).toInt32 = (4095 : Int32) := by decide +kernel
theorem sp_9999 : (Int16.ofInt (9999)).toInt32 = (9999 : Int32) := by decide +kernel
theorem lc_0 : Int64.ofNat ((0 : Fin 2) : Nat) = (0 : Int64) := by decide +kernel
theorem lc_1 : Int64.ofNat ((1 : Fin 2) : Nat) = (1 : Int64) := by decide +kernel
/-- the fuel of loops; a number that no computation unfolds -/
noncomputable def FU : Nat := Classical.choose (⟨100000, rfl⟩ : ∃ n : Nat, n = 100000)
theorem FU_eq : FU = 100000 := Classical.choose_spec (⟨100000, rfl⟩ : ∃ n : Nat, n = 100000)
def ltt {τ β : Type} (x : τ) (k : τ → β) : β := k x
section RXt
variable {ρ : Type} {em : ρ → Option Value} {shs : List Sh} {α : Nat → Nat} {D : va_G} {cA : Nat → ClassId} {z : Cz} {own : String} {cc : ByteArray} {nL : Nat} {ret : Option FieldType} {fr lo : Nat} {σ : St} {pc : Nat} {lv : List (Nat × Value)} {st : List Value} {f : Option (ρ × St)}
theorem rx_lti {x : Int32} {K : Int32 → Option (ρ × St)} (h : ∀ y, RX em shs α D cA z nL σ pc lv (.int y :: st) (K y)) : RX em shs α D cA z nL σ pc lv (.int x :: st) (ltt x K) := h x
theorem rx_ltl {x : Int64} {K : Int64 → Option (ρ × St)} (h : ∀ y, RX em shs α D cA z nL σ pc lv (.long y :: st) (K y)) : RX em shs α D cA z nL σ pc lv (.long x :: st) (ltt x K) := h x
theorem rx_ltr {x : Nat} {K : Nat → Option (ρ × St)} (h : ∀ y, RX em shs α D cA z nL σ pc lv (.ref (α y) :: st) (K y)) : RX em shs α D cA z nL σ pc lv (.ref (α x) :: st) (ltt x K) := h x
theorem rx_lts {x : St} {K : St → Option (ρ × St)} (h : ∀ y, RX em shs α D cA z nL y pc lv st (K y)) : RX em shs α D cA z nL x pc lv st (ltt x K) := h x
theorem CX.wider {fr' lo' : Nat} (C : CX shs α D cA z own cc nL ret fr lo) (h1 : fr = fr') (h2 : lo = lo') : CX shs α D cA z own cc nL ret fr' lo' := by
  subst h1; subst h2; exact C
theorem rx_callVi (C : CX shs α D cA z own cc nL ret fr lo) {y : MethodName} {bytes : ByteArray} {maxL n o ci N idx fr1 lo1 : Nat} {ret1 : Option FieldType} {T : u_T} {ks : List Nat} {f1 : Option (Int32 × St)} {K : Int32 × St → Option (ρ × St)} (As rest : List Value) {stk : List Value}
    (hM : CT shs z.l y bytes maxL ret1 fr1 lo1 emI α D cA (.ref (α o) :: As) σ f1) (mf : MV y bytes maxL ret1 n) (hlk : Cond.methodLink own idx y ∈ tbG) (hsh : shs[o]? = some (.inr (ci, ks))) (hcl : clX[ci]? = some (y.cls, T, N)) (hn : As.length = n) (hst : stk = As.reverse ++ .ref (α o) :: rest) (hcat : (rest.map fun v => v.category).sum ≤ 8) (hR : fr1 + 1 ≤ fr ∧ 8 + (maxL + 11) + lo1 ≤ lo) (hd : decode cc pc = .ok (.invokevirtual idx, 3))
    (kk : ∀ q : Int32 × St, RX em shs α D cA z nL q.2 (pc + 3) lv (.int q.1 :: rest) (K q)) : RX em shs α D cA z nL σ pc lv stk (f1.bind K) := rx_callV C As rest hM mf hlk hsh hcl hn hst hcat hR hd kk
theorem rx_callVl (C : CX shs α D cA z own cc nL ret fr lo) {y : MethodName} {bytes : ByteArray} {maxL n o ci N idx fr1 lo1 : Nat} {ret1 : Option FieldType} {T : u_T} {ks : List Nat} {f1 : Option (Int64 × St)} {K : Int64 × St → Option (ρ × St)} (As rest : List Value) {stk : List Value}
    (hM : CT shs z.l y bytes maxL ret1 fr1 lo1 emL α D cA (.ref (α o) :: As) σ f1) (mf : MV y bytes maxL ret1 n) (hlk : Cond.methodLink own idx y ∈ tbG) (hsh : shs[o]? = some (.inr (ci, ks))) (hcl : clX[ci]? = some (y.cls, T, N)) (hn : As.length = n) (hst : stk = As.reverse ++ .ref (α o) :: rest) (hcat : (rest.map fun v => v.category).sum ≤ 8) (hR : fr1 + 1 ≤ fr ∧ 8 + (maxL + 11) + lo1 ≤ lo) (hd : decode cc pc = .ok (.invokevirtual idx, 3))
    (kk : ∀ q : Int64 × St, RX em shs α D cA z nL q.2 (pc + 3) lv (.long q.1 :: rest) (K q)) : RX em shs α D cA z nL σ pc lv stk (f1.bind K) := rx_callV C As rest hM mf hlk hsh hcl hn hst hcat hR hd kk
theorem rx_callVv (C : CX shs α D cA z own cc nL ret fr lo) {y : MethodName} {bytes : ByteArray} {maxL n o ci N idx fr1 lo1 : Nat} {ret1 : Option FieldType} {T : u_T} {ks : List Nat} {f1 : Option (Unit × St)} {K : Unit × St → Option (ρ × St)} (As rest : List Value) {stk : List Value}
    (hM : CT shs z.l y bytes maxL ret1 fr1 lo1 emV α D cA (.ref (α o) :: As) σ f1) (mf : MV y bytes maxL ret1 n) (hlk : Cond.methodLink own idx y ∈ tbG) (hsh : shs[o]? = some (.inr (ci, ks))) (hcl : clX[ci]? = some (y.cls, T, N)) (hn : As.length = n) (hst : stk = As.reverse ++ .ref (α o) :: rest) (hcat : (rest.map fun v => v.category).sum ≤ 8) (hR : fr1 + 1 ≤ fr ∧ 8 + (maxL + 11) + lo1 ≤ lo) (hd : decode cc pc = .ok (.invokevirtual idx, 3))
    (kk : ∀ q : Unit × St, RX em shs α D cA z nL q.2 (pc + 3) lv (rest) (K q)) : RX em shs α D cA z nL σ pc lv stk (f1.bind K) := rx_callV C As rest hM mf hlk hsh hcl hn hst hcat hR hd kk
theorem rx_callSi (C : CX shs α D cA z own cc nL ret fr lo) {y : MethodName} {bytes : ByteArray} {maxL n idx fr1 lo1 : Nat} {ret1 : Option FieldType} {f1 : Option (Int32 × St)} {K : Int32 × St → Option (ρ × St)} (As rest : List Value) {stk : List Value}
    (hM : CT shs z.l y bytes maxL ret1 fr1 lo1 emI α D cA As σ f1) (mf : MS y bytes maxL ret1 n) (hlk : Cond.methodLink own idx y ∈ tbG) (hn : As.length = n) (hst : stk = As.reverse ++ rest) (hcat : (rest.map fun v => v.category).sum ≤ 8) (hR : fr1 + 1 ≤ fr ∧ 8 + (maxL + 11) + lo1 ≤ lo) (hd : decode cc pc = .ok (.invokestatic idx, 3))
    (kk : ∀ q : Int32 × St, RX em shs α D cA z nL q.2 (pc + 3) lv (.int q.1 :: rest) (K q)) : RX em shs α D cA z nL σ pc lv stk (f1.bind K) := rx_callS C As rest hM mf hlk hn hst hcat hR hd kk
theorem rx_callSl (C : CX shs α D cA z own cc nL ret fr lo) {y : MethodName} {bytes : ByteArray} {maxL n idx fr1 lo1 : Nat} {ret1 : Option FieldType} {f1 : Option (Int64 × St)} {K : Int64 × St → Option (ρ × St)} (As rest : List Value) {stk : List Value}
    (hM : CT shs z.l y bytes maxL ret1 fr1 lo1 emL α D cA As σ f1) (mf : MS y bytes maxL ret1 n) (hlk : Cond.methodLink own idx y ∈ tbG) (hn : As.length = n) (hst : stk = As.reverse ++ rest) (hcat : (rest.map fun v => v.category).sum ≤ 8) (hR : fr1 + 1 ≤ fr ∧ 8 + (maxL + 11) + lo1 ≤ lo) (hd : decode cc pc = .ok (.invokestatic idx, 3))
    (kk : ∀ q : Int64 × St, RX em shs α D cA z nL q.2 (pc + 3) lv (.long q.1 :: rest) (K q)) : RX em shs α D cA z nL σ pc lv stk (f1.bind K) := rx_callS C As rest hM mf hlk hn hst hcat hR hd kk
theorem rx_callSv (C : CX shs α D cA z own cc nL ret fr lo) {y : MethodName} {bytes : ByteArray} {maxL n idx fr1 lo1 : Nat} {ret1 : Option FieldType} {f1 : Option (Unit × St)} {K : Unit × St → Option (ρ × St)} (As rest : List Value) {stk : List Value}
    (hM : CT shs z.l y bytes maxL ret1 fr1 lo1 emV α D cA As σ f1) (mf : MS y bytes maxL ret1 n) (hlk : Cond.methodLink own idx y ∈ tbG) (hn : As.length = n) (hst : stk = As.reverse ++ rest) (hcat : (rest.map fun v => v.category).sum ≤ 8) (hR : fr1 + 1 ≤ fr ∧ 8 + (maxL + 11) + lo1 ≤ lo) (hd : decode cc pc = .ok (.invokestatic idx, 3))
    (kk : ∀ q : Unit × St, RX em shs α D cA z nL q.2 (pc + 3) lv (rest) (K q)) : RX em shs α D cA z nL σ pc lv stk (f1.bind K) := rx_callS C As rest hM mf hlk hn hst hcat hR hd kk
theorem acopy_l : Cond.native arraycopyName ∈ tbG ∧ Cond.static arraycopyName ∈ tbG ∧ Cond.initialized "java/lang/System" ∈ tbG := ⟨tb_3 (List.mem_of_getElem? (i := 233) rfl) rfl, tb_3 (List.mem_of_getElem? (i := 232) rfl) rfl, ini_J10⟩
theorem rx_acopy (C : CX shs α D cA z own cc nL ret fr lo) {src dst n0 n1 sp1 dp1 nn idx : Nat} {sp dp n : Int32} (hs0 : shs[src]? = some (.inl (0, n0))) (hs1 : shs[dst]? = some (.inl (0, n1))) (hlk : Cond.methodLink own idx arraycopyName ∈ tbG) (h1 : ¬ sp < 0) (h2 : ¬ dp < 0) (h3 : ¬ n < 0) (e1 : sp.toNatClampNeg = sp1) (e2 : dp.toNatClampNeg = dp1) (e3 : n.toNatClampNeg = nn) (h4 : sp1 + nn ≤ n0) (h5 : dp1 + nn ≤ n1) (hfr : 1 ≤ fr) (hlo : (st.map fun v => v.category).sum + (nativeFrameWords "java/lang/System" "arraycopy" 5 + 11) ≤ lo) (hd : decode cc pc = .ok (.invokestatic idx, 3))
    (kk : RX em shs α D cA z nL (sCp σ src dst sp1 dp1 nn) (pc + 3) lv st f) : RX em shs α D cA z nL σ pc lv (.int n :: .int dp :: .ref (α dst) :: .int sp :: .ref (α src) :: st) f := fun r σ' e H locs ls hP hS hl => by
  subst e1; subst e2; subst e3
  obtain ⟨w1, w2, w3⟩ := acopy_l
  refine va_copyi (f := gI σ src) (g := gI σ dst) (n0 := n0) (n1 := n1) C.exec C.code (C.maxl.trans hl.1.symm) C.ow (C.hts _ hlk) (C.hts _ w1) (C.hts _ w2) (C.hts _ w3) C.K hP (cels_D C.inj) hS src dst 0 0 (cels_at hs0) (cels_at hs1) rfl rfl rfl h1 h2 h3 h4 h5 (fun _ _ => rfl) (by rw [C.room]; exact hfr) (by rw [C.room]; exact hlo) hd (fun H1 locs1 hP1 hD1 hS1 => kk r σ' e H1 locs1 ls ?_ hS1 hl)
  have e3 := cels_set (α := α) (cA := cA) (σ := σ) (τ := sCp σ src dst sp.toNatClampNeg dp.toNatClampNeg n.toNatClampNeg) hs1 (fun a h => gI_sCp_o h) (fun _ _ => rfl) (fun _ _ => rfl)
  rw [← e3]
  show va_P D clX ((cels shs α cA σ).set dst (α dst, .inl (cA 0, n1, .inl (gI (sCp σ src dst sp.toNatClampNeg dp.toNatClampNeg n.toNatClampNeg) dst)))) H1
  have e4 : va_cpy (gI σ src) (gI σ dst) sp.toNatClampNeg dp.toNatClampNeg n.toNatClampNeg = gI (sCp σ src dst sp.toNatClampNeg dp.toNatClampNeg n.toNatClampNeg) dst := by
    funext b
    simp only [gI_sCp, va_cpy, true_and]
  rw [← e4]
  exact hP1
end RXt
theorem ct_ofF {ρ : Type} {em : ρ → Option Value} {shs : List Sh} {α : Nat → Nat} {D : va_G} {cA : Nat → ClassId} {l : Launch} {y : MethodName} {cc : ByteArray} {maxL : Nat} {ret : Option FieldType} {fr lo : Nat} {as : List Value} {σ : St} {f : Option (ρ × St)} (hy : plainFor y = true) (hlen : (lg_sl as).length ≤ maxL) (hin : inj shs.length α)
    (h : ∀ z : Cz, z.l = l → CX shs α D cA z y.cls cc maxL ret fr lo → RX em shs α D cA z maxL σ 0 (lv_args 0 as) [] f) : CT shs l y cc maxL ret fr lo em α D cA as σ f := by
  intro r σ' e
  refine va_MetF (cc := cc) (maxL := maxL) (ret := ret) hy rfl ?_
  intro p e2 s m args below meth c s₁ B hml hv
  obtain ⟨rfl, hP, hK⟩ := hv
  have hts := atoms_spec (ws := Cond.code y cc maxL ret :: tbG) B.pre
  have hl := lv_entry as (n := maxL) hlen
  rw [lg_entry_eq]
  exact h (mkz p l e2 { frames := fr, cells := 0, slots := 0, locals := lo } s m as.toArray below meth c) rfl ⟨B.exec, B.bytes, hml, findClass_of_methodNamed B.named, fun w hw => hts w (List.mem_cons_of_mem _ hw), hK, hin, B.returns, B.notSynchronized, rfl⟩ r σ' e s.heap [] _ hP va_S.rf hl
