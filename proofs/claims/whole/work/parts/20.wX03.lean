set_option maxRecDepth 100000 in
set_option maxHeartbeats 4000000 in
theorem w_X1_lighten_116 {α : Nat → Nat} {D : va_G} {cA : Nat → ClassId} {z : Cz} (C : CX shX α D cA z RX1 cX1_lighten 6 (some .int) 28 668) (k_75 : Int32 → Int32 → Int32 → Int32 → St → Option (Int32 × St)) (hk_75 : ∀ (x1 : Int32) (x3 : Int32) (x4 : Int32) (x5 : Int32) (σ : St), RX emI shX α D cA z 6 σ 75 [(0, .ref (α 18)), (1, .int x1), (3, .int x3), (4, .int x4), (5, .int x5)] [] (k_75 x1 x3 x4 x5 σ)) (x1 : Int32) (x3 : Int32) (x4 : Int32) (x5 : Int32) (σ : St) : RX emI shX α D cA z 6 σ 116 [(0, .ref (α 18)), (1, .int x1), (3, .int x3), (4, .int x4), (5, .int x5)] [] (f_X1_lighten_116 k_75 x1 x3 x4 x5 σ) := by
  unfold f_X1_lighten_116
  refine rx_iinc C (k0 := 4) (v := x5 + (1 : Int32)) [(5, .int (x5 + (1 : Int32))), (0, .ref (α 18)), (1, .int x1), (3, .int x3), (4, .int x4)] dX1_lighten_116 rfl (congrArg _ ic_1) (by decide) rfl ?_
  refine rx_goto C (tgt := 75) dX1_lighten_119 (by decide) ?_
  exact RX.loc (hk_75 x1 x3 x4 (x5 + (1 : Int32)) σ) [1, 2, 3, 4, 0] rfl
set_option maxRecDepth 100000 in
set_option maxHeartbeats 4000000 in
theorem w_X1_lighten_75 {α : Nat → Nat} {D : va_G} {cA : Nat → ClassId} {z : Cz} (C : CX shX α D cA z RX1 cX1_lighten 6 (some .int) 28 668) : ∀ (n : Nat) (x1 : Int32) (x3 : Int32) (x4 : Int32) (x5 : Int32) (σ : St), RX emI shX α D cA z 6 σ 75 [(0, .ref (α 18)), (1, .int x1), (3, .int x3), (4, .int x4), (5, .int x5)] [] (f_X1_lighten_75 n x1 x3 x4 x5 σ) := by
  intro n
  induction n with
  | zero => intros; exact rx_none
  | succ n hk_75 =>
    intro x1 x3 x4 x5 σ
    rw [f_X1_lighten_75.eq_2]
    refine rx_iload C 4 dX1_lighten_75 rfl ?_
    refine rx_aload_n C 0 dX1_lighten_77 rfl rfl ?_
    refine rx_getC C (k := 0) sx_18 fc_X1 (by decide) 6 rfl lk_X1_9 dX1_lighten_78 ?_
    refine rx_getR C (k := 0) sx_6 fc_X2 (by decide) rfl lk_X1_85 dX1_lighten_81 ?_
    refine rx_ltr (fun g17 => ?_)
    refine rx_if (fun hg17 => ?_) (fun _ => rx_none)
    refine rx_getC C (k := 1) (ld_sh (landB_is hg17)) fc_X4 (by decide) (g17 + 4) rfl lk_X1_137 dX1_lighten_84 ?_
    refine rx_getI C (k := 4) (ro_sh (ld_4 (landB_is hg17))) fc_X8 (by decide) rfl lk_X1_42 dX1_lighten_87 ?_
    refine rx_icmp_ge C (tgt := 122) dX1_lighten_90 (by decide) (fun _ => ?_) (fun _ => ?_)
    · refine rx_iload C 3 dX1_lighten_122 rfl ?_
      exact rx_iret C dX1_lighten_124
    · refine rx_iload_n C 2 dX1_lighten_93 rfl rfl ?_
      refine rx_iload C 4 dX1_lighten_94 rfl ?_
      refine rx_ishr C dX1_lighten_96 ?_
      refine rx_iconst C dX1_lighten_97 ic_1 ?_
      refine rx_iand C dX1_lighten_98 ?_
      refine rx_if_ne C (tgt := 116) dX1_lighten_99 (by decide) (fun _ => ?_) (fun _ => ?_)
      · refine rx_aload_n C 0 dX1_lighten_102 rfl rfl ?_
        refine rx_iload_n C 1 dX1_lighten_103 rfl rfl ?_
        refine rx_iload C 4 dX1_lighten_104 rfl ?_
        refine rx_callVi C [.int x1, .int x5] [] (m_X1_dropTitle z.l C.inj x1 x5 σ) mv_X1_dropTitle lk_X1_179 sx_18 rfl rfl rfl (Nat.le_of_ble_eq_true rfl) ⟨Nat.le_of_ble_eq_true rfl, Nat.le_of_ble_eq_true rfl⟩ dX1_lighten_106 (fun q18 => ?_)
        refine rx_iconst C dX1_lighten_109 ic_m1 ?_
        refine rx_icmp_eq C (tgt := 116) dX1_lighten_110 (by decide) (fun _ => ?_) (fun _ => ?_)
        · exact RX.loc (w_X1_lighten_116 C (f_X1_lighten_75 n) hk_75 x1 x3 x4 x5 q18.2) [0, 1, 2, 3, 4] rfl
        · refine rx_iinc C (k0 := 3) (v := x4 + (1 : Int32)) [(4, .int (x4 + (1 : Int32))), (0, .ref (α 18)), (1, .int x1), (3, .int x3), (5, .int x5)] dX1_lighten_113 rfl (congrArg _ ic_1) (by decide) rfl ?_
          exact RX.loc (w_X1_lighten_116 C (f_X1_lighten_75 n) hk_75 x1 x3 (x4 + (1 : Int32)) x5 q18.2) [1, 2, 3, 0, 4] rfl
      · exact RX.loc (w_X1_lighten_116 C (f_X1_lighten_75 n) hk_75 x1 x3 x4 x5 σ) [0, 1, 2, 3, 4] rfl
set_option maxRecDepth 100000 in
set_option maxHeartbeats 4000000 in
theorem w_X1_lighten_e {α : Nat → Nat} {D : va_G} {cA : Nat → ClassId} {z : Cz} (C : CX shX α D cA z RX1 cX1_lighten 6 (some .int) 28 668) (x1 : Int32) (σ : St) : RX emI shX α D cA z 6 σ 0 [(0, .ref (α 18)), (1, .int x1)] [] (f_X1_lighten x1 σ) := by
  unfold f_X1_lighten
  refine rx_aload_n C 0 dX1_lighten_0 rfl rfl ?_
  refine rx_getC C (k := 0) sx_18 fc_X1 (by decide) 6 rfl lk_X1_9 dX1_lighten_1 ?_
  refine rx_iload_n C 1 dX1_lighten_4 rfl rfl ?_
  refine rx_callVi C [.int x1] [] (m_X2_limitOf z.l C.inj x1 σ) mv_X2_limitOf lk_X1_118 sx_6 rfl rfl rfl (Nat.le_of_ble_eq_true rfl) ⟨Nat.le_of_ble_eq_true rfl, Nat.le_of_ble_eq_true rfl⟩ dX1_lighten_5 (fun q10 => ?_)
  refine rx_istore_n C [(2, .int q10.1), (0, .ref (α 18)), (1, .int x1)] dX1_lighten_8 rfl (by decide) rfl ?_
  refine rx_aload_n C 1 dX1_lighten_9 rfl rfl ?_
  refine rx_getC C (k := 0) sx_18 fc_X1 (by decide) 6 rfl lk_X1_9 dX1_lighten_10 ?_
  refine rx_iload_n C 2 dX1_lighten_13 rfl rfl ?_
  refine rx_callVi C [.int x1] [] (m_X2_loadOf z.l C.inj x1 q10.2) mv_X2_loadOf lk_X1_71 sx_6 rfl rfl rfl (Nat.le_of_ble_eq_true rfl) ⟨Nat.le_of_ble_eq_true rfl, Nat.le_of_ble_eq_true rfl⟩ dX1_lighten_14 (fun q11 => ?_)
  refine rx_iload_n C 0 dX1_lighten_17 rfl rfl ?_
  refine rx_icmp_gt C (tgt := 23) dX1_lighten_18 (by decide) (fun _ => ?_) (fun _ => ?_)
  · refine rx_aload_n C 1 dX1_lighten_23 rfl rfl ?_
    refine rx_getC C (k := 0) sx_18 fc_X1 (by decide) 6 rfl lk_X1_9 dX1_lighten_24 ?_
    refine rx_iload_n C 2 dX1_lighten_27 rfl rfl ?_
    refine rx_callVv C [.int x1] [] (m_X2_pourLoose z.l C.inj x1 q11.2) mv_X2_pourLoose lk_X1_164 sx_6 rfl rfl rfl (Nat.le_of_ble_eq_true rfl) ⟨Nat.le_of_ble_eq_true rfl, Nat.le_of_ble_eq_true rfl⟩ dX1_lighten_28 (fun q12 => ?_)
    refine rx_aload_n C 1 dX1_lighten_31 rfl rfl ?_
    refine rx_getC C (k := 0) sx_18 fc_X1 (by decide) 6 rfl lk_X1_9 dX1_lighten_32 ?_
    refine rx_iload_n C 2 dX1_lighten_35 rfl rfl ?_
    refine rx_callVi C [.int x1] [] (m_X2_loadOf z.l C.inj x1 q12.2) mv_X2_loadOf lk_X1_71 sx_6 rfl rfl rfl (Nat.le_of_ble_eq_true rfl) ⟨Nat.le_of_ble_eq_true rfl, Nat.le_of_ble_eq_true rfl⟩ dX1_lighten_36 (fun q13 => ?_)
    refine rx_iload_n C 0 dX1_lighten_39 rfl rfl ?_
    refine rx_icmp_gt C (tgt := 45) dX1_lighten_40 (by decide) (fun _ => ?_) (fun _ => ?_)
    · refine rx_aload_n C 1 dX1_lighten_45 rfl rfl ?_
      refine rx_getC C (k := 1) sx_18 fc_X1 (by decide) 24 rfl lk_X1_15 dX1_lighten_46 ?_
      refine rx_aload_n C 1 dX1_lighten_49 rfl rfl ?_
      refine rx_getC C (k := 0) sx_18 fc_X1 (by decide) 6 rfl lk_X1_9 dX1_lighten_50 ?_
      refine rx_getR C (k := 0) sx_6 fc_X2 (by decide) rfl lk_X1_85 dX1_lighten_53 ?_
      refine rx_ltr (fun g14 => ?_)
      refine rx_if (fun hg14 => ?_) (fun _ => rx_none)
      refine rx_aload_n C 1 dX1_lighten_56 rfl rfl ?_
      refine rx_getC C (k := 0) sx_18 fc_X1 (by decide) 6 rfl lk_X1_9 dX1_lighten_57 ?_
      refine rx_iload_n C 2 dX1_lighten_60 rfl rfl ?_
      refine rx_callVi C [.int x1] [.ref (α g14), .ref (α 24)] (m_X2_titlesOf z.l C.inj x1 q13.2) mv_X2_titlesOf lk_X1_155 sx_6 rfl rfl rfl (Nat.le_of_ble_eq_true rfl) ⟨Nat.le_of_ble_eq_true rfl, Nat.le_of_ble_eq_true rfl⟩ dX1_lighten_61 (fun q15 => ?_)
      refine rx_iload_n C 0 dX1_lighten_64 rfl rfl ?_
      refine rx_callVi C [.ref (α g14), .int q15.1, .int q10.1] [] (m_X9_bestSet z.l C.inj g14 (landB_is hg14) q15.1 q10.1 q15.2) mv_X9_bestSet lk_X1_158 sx_24 rfl rfl rfl (Nat.le_of_ble_eq_true rfl) ⟨Nat.le_of_ble_eq_true rfl, Nat.le_of_ble_eq_true rfl⟩ dX1_lighten_65 (fun q16 => ?_)
      refine rx_istore_n C [(3, .int q16.1), (2, .int q10.1), (0, .ref (α 18)), (1, .int x1)] dX1_lighten_68 rfl (by decide) rfl ?_
      refine rx_iconst C dX1_lighten_69 ic_0 ?_
      refine rx_istore C [(4, .int (0 : Int32)), (3, .int q16.1), (2, .int q10.1), (0, .ref (α 18)), (1, .int x1)] dX1_lighten_70 (by decide) rfl ?_
      refine rx_iconst C dX1_lighten_72 ic_0 ?_
      refine rx_istore C [(5, .int (0 : Int32)), (4, .int (0 : Int32)), (3, .int q16.1), (2, .int q10.1), (0, .ref (α 18)), (1, .int x1)] dX1_lighten_73 (by decide) rfl ?_
      exact RX.loc (w_X1_lighten_75 C FU x1 q16.1 (0 : Int32) (0 : Int32) q16.2) [4, 5, 2, 1, 0] rfl
    · refine rx_iconst C dX1_lighten_43 ic_0 ?_
      exact rx_iret C dX1_lighten_44
  · refine rx_iconst C dX1_lighten_21 ic_0 ?_
    exact rx_iret C dX1_lighten_22
theorem m_X1_lighten (l : Launch) {α : Nat → Nat} {D : va_G} {cA : Nat → ClassId} (hin : inj shX.length α) (x1 : Int32) (σ : St) : CT shX l yX1_lighten cX1_lighten 6 (some .int) 28 668 emI α D cA [.ref (α 18), .int x1] σ (f_X1_lighten x1 σ) := ct_of rfl (Nat.le_of_ble_eq_true rfl) hin (fun z _ C => w_X1_lighten_e C x1 σ)
set_option maxRecDepth 100000 in
set_option maxHeartbeats 4000000 in
theorem w_X1_passYears_11 {α : Nat → Nat} {D : va_G} {cA : Nat → ClassId} {z : Cz} (C : CX shX α D cA z RX1 cX1_passYears 5 (some .int) 29 693) (σ : St) : RX emI shX α D cA z 5 σ 11 [] [] (f_X1_passYears_11 σ) := by
  unfold f_X1_passYears_11
  refine rx_iconst C dX1_passYears_11 ic_m1 ?_
  exact rx_iret C dX1_passYears_12
set_option maxRecDepth 100000 in
set_option maxHeartbeats 4000000 in
theorem w_X1_passYears_47 {α : Nat → Nat} {D : va_G} {cA : Nat → ClassId} {z : Cz} (C : CX shX α D cA z RX1 cX1_passYears 5 (some .int) 29 693) (k_17 : Int32 → Int32 → Int32 → St → Option (Int32 × St)) (hk_17 : ∀ (x1 : Int32) (x2 : Int32) (x3 : Int32) (σ : St), RX emI shX α D cA z 5 σ 17 [(0, .ref (α 18)), (1, .int x1), (2, .int x2), (3, .int x3)] [] (k_17 x1 x2 x3 σ)) : ∀ (n : Nat) (x1 : Int32) (x2 : Int32) (x3 : Int32) (x4 : Int32) (σ : St), RX emI shX α D cA z 5 σ 47 [(0, .ref (α 18)), (1, .int x1), (2, .int x2), (3, .int x3), (4, .int x4)] [] (f_X1_passYears_47 k_17 n x1 x2 x3 x4 σ) := by
  intro n
  induction n with
  | zero => intros; exact rx_none
  | succ n hk_47 =>
    intro x1 x2 x3 x4 σ
    rw [f_X1_passYears_47.eq_2]
    refine rx_iload C 4 dX1_passYears_47 rfl ?_
    refine rx_aload_n C 0 dX1_passYears_49 rfl rfl ?_
    refine rx_getC C (k := 0) sx_18 fc_X1 (by decide) 6 rfl lk_X1_9 dX1_passYears_50 ?_
    refine rx_getR C (k := 0) sx_6 fc_X2 (by decide) rfl lk_X1_85 dX1_passYears_53 ?_
    refine rx_ltr (fun g8 => ?_)
    refine rx_if (fun hg8 => ?_) (fun _ => rx_none)
    refine rx_getC C (k := 0) (ld_sh (landB_is hg8)) fc_X4 (by decide) (g8 + 1) rfl lk_X1_173 dX1_passYears_56 ?_
    refine rx_getI C (k := 4) (ro_sh (ld_1 (landB_is hg8))) fc_X8 (by decide) rfl lk_X1_42 dX1_passYears_59 ?_
    refine rx_icmp_ge C (tgt := 80) dX1_passYears_62 (by decide) (fun _ => ?_) (fun _ => ?_)
    · refine rx_iinc C (k0 := 3) (v := x3 + (1 : Int32)) [(3, .int (x3 + (1 : Int32))), (0, .ref (α 18)), (1, .int x1), (2, .int x2), (4, .int x4)] dX1_passYears_80 rfl (congrArg _ ic_1) (by decide) rfl ?_
      refine rx_goto C (tgt := 17) dX1_passYears_83 (by decide) ?_
      exact RX.loc (hk_17 x1 x2 (x3 + (1 : Int32)) σ) [1, 2, 3, 0] rfl
    · refine rx_iload_n C 2 dX1_passYears_65 rfl rfl ?_
      refine rx_aload_n C 0 dX1_passYears_66 rfl rfl ?_
      refine rx_iload C 4 dX1_passYears_67 rfl ?_
      refine rx_callVi C [.int x4] [.int x2] (m_X1_lighten z.l C.inj x4 σ) mv_X1_lighten lk_X1_176 sx_18 rfl rfl rfl (Nat.le_of_ble_eq_true rfl) ⟨Nat.le_of_ble_eq_true rfl, Nat.le_of_ble_eq_true rfl⟩ dX1_passYears_69 (fun q9 => ?_)
      refine rx_iadd C dX1_passYears_72 ?_
      refine rx_lti (fun w10 => ?_)
      refine rx_istore_n C [(2, .int w10), (0, .ref (α 18)), (1, .int x1), (3, .int x3), (4, .int x4)] dX1_passYears_73 rfl (by decide) rfl ?_
      refine rx_iinc C (k0 := 4) (v := x4 + (1 : Int32)) [(4, .int (x4 + (1 : Int32))), (2, .int w10), (0, .ref (α 18)), (1, .int x1), (3, .int x3)] dX1_passYears_74 rfl (congrArg _ ic_1) (by decide) rfl ?_
      refine rx_goto C (tgt := 47) dX1_passYears_77 (by decide) ?_
      exact RX.loc (hk_47 x1 w10 x3 (x4 + (1 : Int32)) q9.2) [2, 3, 1, 4, 0] rfl
set_option maxRecDepth 100000 in
set_option maxHeartbeats 4000000 in
theorem w_X1_passYears_17 {α : Nat → Nat} {D : va_G} {cA : Nat → ClassId} {z : Cz} (C : CX shX α D cA z RX1 cX1_passYears 5 (some .int) 29 693) : ∀ (n : Nat) (x1 : Int32) (x2 : Int32) (x3 : Int32) (σ : St), RX emI shX α D cA z 5 σ 17 [(0, .ref (α 18)), (1, .int x1), (2, .int x2), (3, .int x3)] [] (f_X1_passYears_17 n x1 x2 x3 σ) := by
  intro n
  induction n with
  | zero => intros; exact rx_none
  | succ n hk_17 =>
    intro x1 x2 x3 σ
    rw [f_X1_passYears_17.eq_2]
    refine rx_iload_n C 3 dX1_passYears_17 rfl rfl ?_
    refine rx_iload_n C 1 dX1_passYears_18 rfl rfl ?_
    refine rx_icmp_ge C (tgt := 86) dX1_passYears_19 (by decide) (fun _ => ?_) (fun _ => ?_)
    · refine rx_iload_n C 2 dX1_passYears_86 rfl rfl ?_
      exact rx_iret C dX1_passYears_87
    · refine rx_aload_n C 0 dX1_passYears_22 rfl rfl ?_
      refine rx_getC C (k := 0) sx_18 fc_X1 (by decide) 6 rfl lk_X1_9 dX1_passYears_23 ?_
      refine rx_sipush C dX1_passYears_26 sp_999 ?_
      refine rx_aload_n C 0 dX1_passYears_29 rfl rfl ?_
      refine rx_getC C (k := 0) sx_18 fc_X1 (by decide) 6 rfl lk_X1_9 dX1_passYears_30 ?_
      refine rx_getI C (k := 1) sx_6 fc_X2 (by decide) rfl lk_X1_49 dX1_passYears_33 ?_
      refine rx_iconst C dX1_passYears_36 ic_1 ?_
      refine rx_iadd C dX1_passYears_37 ?_
      refine rx_callSi C [.int (999 : Int32), .int ((gI σ 6 1) + (1 : Int32))] [.ref (α 6)] (m_J9_min_7cf53 z.l C.inj (999 : Int32) ((gI σ 6 1) + (1 : Int32)) σ) ms_J9_min_7cf53 lk_X1_170 rfl rfl (Nat.le_of_ble_eq_true rfl) ⟨Nat.le_of_ble_eq_true rfl, Nat.le_of_ble_eq_true rfl⟩ dX1_passYears_38 (fun q6 => ?_)
      refine rx_putI C (k := 1) sx_6 fc_X2 (by decide) rfl lk_X1_49 rfl ⟨rfl, rfl⟩ dX1_passYears_41 ?_
      refine rx_lts (fun σ7 => ?_)
      refine rx_iconst C dX1_passYears_44 ic_0 ?_
      refine rx_istore C [(4, .int (0 : Int32)), (0, .ref (α 18)), (1, .int x1), (2, .int x2), (3, .int x3)] dX1_passYears_45 (by decide) rfl ?_
      exact RX.loc (w_X1_passYears_47 C (f_X1_passYears_17 n) hk_17 FU x1 x2 x3 (0 : Int32) σ7) [1, 2, 3, 4, 0] rfl
set_option maxRecDepth 100000 in
set_option maxHeartbeats 4000000 in
theorem w_X1_passYears_e {α : Nat → Nat} {D : va_G} {cA : Nat → ClassId} {z : Cz} (C : CX shX α D cA z RX1 cX1_passYears 5 (some .int) 29 693) (x1 : Int32) (σ : St) : RX emI shX α D cA z 5 σ 0 [(0, .ref (α 18)), (1, .int x1)] [] (f_X1_passYears x1 σ) := by
  unfold f_X1_passYears
  refine rx_iload_n C 1 dX1_passYears_0 rfl rfl ?_
  refine rx_iconst C dX1_passYears_1 ic_1 ?_
  refine rx_icmp_lt C (tgt := 11) dX1_passYears_2 (by decide) (fun _ => ?_) (fun _ => ?_)
  · exact RX.loc (w_X1_passYears_11 C σ) [] rfl
  · refine rx_iload_n C 1 dX1_passYears_5 rfl rfl ?_
    refine rx_bipush C dX1_passYears_6 bp_60 ?_
    refine rx_icmp_le C (tgt := 13) dX1_passYears_8 (by decide) (fun _ => ?_) (fun _ => ?_)
    · refine rx_iconst C dX1_passYears_13 ic_0 ?_
      refine rx_istore_n C [(2, .int (0 : Int32)), (0, .ref (α 18)), (1, .int x1)] dX1_passYears_14 rfl (by decide) rfl ?_
      refine rx_iconst C dX1_passYears_15 ic_0 ?_
      refine rx_istore_n C [(3, .int (0 : Int32)), (2, .int (0 : Int32)), (0, .ref (α 18)), (1, .int x1)] dX1_passYears_16 rfl (by decide) rfl ?_
      exact RX.loc (w_X1_passYears_17 C FU x1 (0 : Int32) (0 : Int32) σ) [2, 3, 1, 0] rfl
    · exact RX.loc (w_X1_passYears_11 C σ) [] rfl
theorem m_X1_passYears (l : Launch) {α : Nat → Nat} {D : va_G} {cA : Nat → ClassId} (hin : inj shX.length α) (x1 : Int32) (σ : St) : CT shX l yX1_passYears cX1_passYears 5 (some .int) 29 693 emI α D cA [.ref (α 18), .int x1] σ (f_X1_passYears x1 σ) := ct_of rfl (Nat.le_of_ble_eq_true rfl) hin (fun z _ C => w_X1_passYears_e C x1 σ)
set_option maxRecDepth 100000 in
set_option maxHeartbeats 4000000 in
theorem w_X1_gainable_40 {α : Nat → Nat} {D : va_G} {cA : Nat → ClassId} {z : Cz} (C : CX shX α D cA z RX1 cX1_gainable 4 (some .int) 6 150) (k_4 : Int32 → Int32 → Int32 → St → Option (Int32 × St)) (hk_4 : ∀ (x1 : Int32) (x2 : Int32) (x3 : Int32) (σ : St), RX emI shX α D cA z 4 σ 4 [(0, .ref (α 18)), (1, .int x1), (2, .int x2), (3, .int x3)] [] (k_4 x1 x2 x3 σ)) (x1 : Int32) (x3 : Int32) (s1 : Int32) (s0 : Int32) (σ : St) : RX emI shX α D cA z 4 σ 40 [(0, .ref (α 18)), (1, .int x1), (3, .int x3)] [.int s1, .int s0] (f_X1_gainable_40 k_4 x1 x3 s1 s0 σ) := by
  unfold f_X1_gainable_40
  refine rx_iadd C dX1_gainable_40 ?_
  refine rx_lti (fun w6 => ?_)
  refine rx_istore_n C [(2, .int w6), (0, .ref (α 18)), (1, .int x1), (3, .int x3)] dX1_gainable_41 rfl (by decide) rfl ?_
  refine rx_iinc C (k0 := 3) (v := x3 + (1 : Int32)) [(3, .int (x3 + (1 : Int32))), (2, .int w6), (0, .ref (α 18)), (1, .int x1)] dX1_gainable_42 rfl (congrArg _ ic_1) (by decide) rfl ?_
  refine rx_goto C (tgt := 4) dX1_gainable_45 (by decide) ?_
  exact RX.loc (hk_4 x1 w6 (x3 + (1 : Int32)) σ) [2, 3, 1, 0] rfl
set_option maxRecDepth 100000 in
set_option maxHeartbeats 4000000 in
theorem w_X1_gainable_4 {α : Nat → Nat} {D : va_G} {cA : Nat → ClassId} {z : Cz} (C : CX shX α D cA z RX1 cX1_gainable 4 (some .int) 6 150) : ∀ (n : Nat) (x1 : Int32) (x2 : Int32) (x3 : Int32) (σ : St), RX emI shX α D cA z 4 σ 4 [(0, .ref (α 18)), (1, .int x1), (2, .int x2), (3, .int x3)] [] (f_X1_gainable_4 n x1 x2 x3 σ) := by
  intro n
  induction n with
  | zero => intros; exact rx_none
  | succ n hk_4 =>
    intro x1 x2 x3 σ
    rw [f_X1_gainable_4.eq_2]
    refine rx_iload_n C 3 dX1_gainable_4 rfl rfl ?_
    refine rx_aload_n C 0 dX1_gainable_5 rfl rfl ?_
    refine rx_getC C (k := 0) sx_18 fc_X1 (by decide) 6 rfl lk_X1_9 dX1_gainable_6 ?_
    refine rx_getR C (k := 0) sx_6 fc_X2 (by decide) rfl lk_X1_85 dX1_gainable_9 ?_
    refine rx_ltr (fun g4 => ?_)
    refine rx_if (fun hg4 => ?_) (fun _ => rx_none)
    refine rx_getC C (k := 1) (ld_sh (landB_is hg4)) fc_X4 (by decide) (g4 + 4) rfl lk_X1_137 dX1_gainable_12 ?_
    refine rx_getI C (k := 4) (ro_sh (ld_4 (landB_is hg4))) fc_X8 (by decide) rfl lk_X1_42 dX1_gainable_15 ?_
    refine rx_icmp_ge C (tgt := 48) dX1_gainable_18 (by decide) (fun _ => ?_) (fun _ => ?_)
    · refine rx_iload_n C 2 dX1_gainable_48 rfl rfl ?_
      exact rx_iret C dX1_gainable_49
    · refine rx_iload_n C 2 dX1_gainable_21 rfl rfl ?_
      refine rx_aload_n C 0 dX1_gainable_22 rfl rfl ?_
      refine rx_getC C (k := 0) sx_18 fc_X1 (by decide) 6 rfl lk_X1_9 dX1_gainable_23 ?_
      refine rx_iload_n C 1 dX1_gainable_26 rfl rfl ?_
      refine rx_iload_n C 3 dX1_gainable_27 rfl rfl ?_
      refine rx_callVi C [.int x1, .int x3] [.int x2] (m_X2_gainOunces z.l C.inj x1 x3 σ) mv_X2_gainOunces lk_X1_57 sx_6 rfl rfl rfl (Nat.le_of_ble_eq_true rfl) ⟨Nat.le_of_ble_eq_true rfl, Nat.le_of_ble_eq_true rfl⟩ dX1_gainable_28 (fun q5 => ?_)
      refine rx_iconst C dX1_gainable_31 ic_m1 ?_
      refine rx_icmp_ne C (tgt := 39) dX1_gainable_32 (by decide) (fun _ => ?_) (fun _ => ?_)
      · refine rx_iconst C dX1_gainable_35 ic_0 ?_
        refine rx_goto C (tgt := 40) dX1_gainable_36 (by decide) ?_
        exact RX.loc (w_X1_gainable_40 C (f_X1_gainable_4 n) hk_4 x1 x3 (0 : Int32) x2 q5.2) [0, 1, 3] rfl
      · refine rx_iconst C dX1_gainable_39 ic_1 ?_
        exact RX.loc (w_X1_gainable_40 C (f_X1_gainable_4 n) hk_4 x1 x3 (1 : Int32) x2 q5.2) [0, 1, 3] rfl
set_option maxRecDepth 100000 in
set_option maxHeartbeats 4000000 in
theorem w_X1_gainable_e {α : Nat → Nat} {D : va_G} {cA : Nat → ClassId} {z : Cz} (C : CX shX α D cA z RX1 cX1_gainable 4 (some .int) 6 150) (x1 : Int32) (σ : St) : RX emI shX α D cA z 4 σ 0 [(0, .ref (α 18)), (1, .int x1)] [] (f_X1_gainable x1 σ) := by
  unfold f_X1_gainable
  refine rx_iconst C dX1_gainable_0 ic_0 ?_
  refine rx_istore_n C [(2, .int (0 : Int32)), (0, .ref (α 18)), (1, .int x1)] dX1_gainable_1 rfl (by decide) rfl ?_
  refine rx_iconst C dX1_gainable_2 ic_0 ?_
  refine rx_istore_n C [(3, .int (0 : Int32)), (2, .int (0 : Int32)), (0, .ref (α 18)), (1, .int x1)] dX1_gainable_3 rfl (by decide) rfl ?_
  exact RX.loc (w_X1_gainable_4 C FU x1 (0 : Int32) (0 : Int32) σ) [2, 3, 1, 0] rfl
theorem m_X1_gainable (l : Launch) {α : Nat → Nat} {D : va_G} {cA : Nat → ClassId} (hin : inj shX.length α) (x1 : Int32) (σ : St) : CT shX l yX1_gainable cX1_gainable 4 (some .int) 6 150 emI α D cA [.ref (α 18), .int x1] σ (f_X1_gainable x1 σ) := ct_of rfl (Nat.le_of_ble_eq_true rfl) hin (fun z _ C => w_X1_gainable_e C x1 σ)
set_option maxRecDepth 100000 in
set_option maxHeartbeats 4000000 in
theorem w_X1_gainableAt_43 {α : Nat → Nat} {D : va_G} {cA : Nat → ClassId} {z : Cz} (C : CX shX α D cA z RX1 cX1_gainableAt 5 (some .int) 6 150) (k_5 : Int32 → Int32 → Int32 → Int32 → St → Option (Int32 × St)) (hk_5 : ∀ (x1 : Int32) (x2 : Int32) (x3 : Int32) (x4 : Int32) (σ : St), RX emI shX α D cA z 5 σ 5 [(0, .ref (α 18)), (1, .int x1), (2, .int x2), (3, .int x3), (4, .int x4)] [] (k_5 x1 x2 x3 x4 σ)) (x1 : Int32) (x2 : Int32) (x4 : Int32) (s1 : Int32) (s0 : Int32) (σ : St) : RX emI shX α D cA z 5 σ 43 [(0, .ref (α 18)), (1, .int x1), (2, .int x2), (4, .int x4)] [.int s1, .int s0] (f_X1_gainableAt_43 k_5 x1 x2 x4 s1 s0 σ) := by
  unfold f_X1_gainableAt_43
  refine rx_iadd C dX1_gainableAt_43 ?_
  refine rx_lti (fun w6 => ?_)
  refine rx_istore_n C [(3, .int w6), (0, .ref (α 18)), (1, .int x1), (2, .int x2), (4, .int x4)] dX1_gainableAt_44 rfl (by decide) rfl ?_
  refine rx_iload_n C 0 dX1_gainableAt_45 rfl rfl ?_
  refine rx_iload_n C 3 dX1_gainableAt_46 rfl rfl ?_
  refine rx_icmp_ne C (tgt := 53) dX1_gainableAt_47 (by decide) (fun _ => ?_) (fun _ => ?_)
  · refine rx_iload C 4 dX1_gainableAt_50 rfl ?_
    exact rx_iret C dX1_gainableAt_52
  · refine rx_iinc C (k0 := 4) (v := x4 + (1 : Int32)) [(4, .int (x4 + (1 : Int32))), (3, .int w6), (0, .ref (α 18)), (1, .int x1), (2, .int x2)] dX1_gainableAt_53 rfl (congrArg _ ic_1) (by decide) rfl ?_
    refine rx_goto C (tgt := 5) dX1_gainableAt_56 (by decide) ?_
    exact RX.loc (hk_5 x1 x2 w6 (x4 + (1 : Int32)) σ) [2, 3, 4, 1, 0] rfl
set_option maxRecDepth 100000 in
set_option maxHeartbeats 4000000 in
theorem w_X1_gainableAt_5 {α : Nat → Nat} {D : va_G} {cA : Nat → ClassId} {z : Cz} (C : CX shX α D cA z RX1 cX1_gainableAt 5 (some .int) 6 150) : ∀ (n : Nat) (x1 : Int32) (x2 : Int32) (x3 : Int32) (x4 : Int32) (σ : St), RX emI shX α D cA z 5 σ 5 [(0, .ref (α 18)), (1, .int x1), (2, .int x2), (3, .int x3), (4, .int x4)] [] (f_X1_gainableAt_5 n x1 x2 x3 x4 σ) := by
  intro n
  induction n with
  | zero => intros; exact rx_none
  | succ n hk_5 =>
    intro x1 x2 x3 x4 σ
    rw [f_X1_gainableAt_5.eq_2]
    refine rx_iload C 4 dX1_gainableAt_5 rfl ?_
    refine rx_aload_n C 0 dX1_gainableAt_7 rfl rfl ?_
    refine rx_getC C (k := 0) sx_18 fc_X1 (by decide) 6 rfl lk_X1_9 dX1_gainableAt_8 ?_
    refine rx_getR C (k := 0) sx_6 fc_X2 (by decide) rfl lk_X1_85 dX1_gainableAt_11 ?_
    refine rx_ltr (fun g4 => ?_)
    refine rx_if (fun hg4 => ?_) (fun _ => rx_none)
    refine rx_getC C (k := 1) (ld_sh (landB_is hg4)) fc_X4 (by decide) (g4 + 4) rfl lk_X1_137 dX1_gainableAt_14 ?_
    refine rx_getI C (k := 4) (ro_sh (ld_4 (landB_is hg4))) fc_X8 (by decide) rfl lk_X1_42 dX1_gainableAt_17 ?_
    refine rx_icmp_ge C (tgt := 59) dX1_gainableAt_20 (by decide) (fun _ => ?_) (fun _ => ?_)
    · refine rx_iconst C dX1_gainableAt_59 ic_m1 ?_
      exact rx_iret C dX1_gainableAt_60
    · refine rx_iload_n C 3 dX1_gainableAt_23 rfl rfl ?_
      refine rx_aload_n C 0 dX1_gainableAt_24 rfl rfl ?_
      refine rx_getC C (k := 0) sx_18 fc_X1 (by decide) 6 rfl lk_X1_9 dX1_gainableAt_25 ?_
      refine rx_iload_n C 1 dX1_gainableAt_28 rfl rfl ?_
      refine rx_iload C 4 dX1_gainableAt_29 rfl ?_
      refine rx_callVi C [.int x1, .int x4] [.int x3] (m_X2_gainOunces z.l C.inj x1 x4 σ) mv_X2_gainOunces lk_X1_57 sx_6 rfl rfl rfl (Nat.le_of_ble_eq_true rfl) ⟨Nat.le_of_ble_eq_true rfl, Nat.le_of_ble_eq_true rfl⟩ dX1_gainableAt_31 (fun q5 => ?_)
      refine rx_iconst C dX1_gainableAt_34 ic_m1 ?_
      refine rx_icmp_ne C (tgt := 42) dX1_gainableAt_35 (by decide) (fun _ => ?_) (fun _ => ?_)
      · refine rx_iconst C dX1_gainableAt_38 ic_0 ?_
        refine rx_goto C (tgt := 43) dX1_gainableAt_39 (by decide) ?_
        exact RX.loc (w_X1_gainableAt_43 C (f_X1_gainableAt_5 n) hk_5 x1 x2 x4 (0 : Int32) x3 q5.2) [0, 1, 2, 4] rfl
      · refine rx_iconst C dX1_gainableAt_42 ic_1 ?_
        exact RX.loc (w_X1_gainableAt_43 C (f_X1_gainableAt_5 n) hk_5 x1 x2 x4 (1 : Int32) x3 q5.2) [0, 1, 2, 4] rfl
set_option maxRecDepth 100000 in
set_option maxHeartbeats 4000000 in
theorem w_X1_gainableAt_e {α : Nat → Nat} {D : va_G} {cA : Nat → ClassId} {z : Cz} (C : CX shX α D cA z RX1 cX1_gainableAt 5 (some .int) 6 150) (x1 : Int32) (x2 : Int32) (σ : St) : RX emI shX α D cA z 5 σ 0 [(0, .ref (α 18)), (1, .int x1), (2, .int x2)] [] (f_X1_gainableAt x1 x2 σ) := by
  unfold f_X1_gainableAt
  refine rx_iconst C dX1_gainableAt_0 ic_0 ?_
  refine rx_istore_n C [(3, .int (0 : Int32)), (0, .ref (α 18)), (1, .int x1), (2, .int x2)] dX1_gainableAt_1 rfl (by decide) rfl ?_
  refine rx_iconst C dX1_gainableAt_2 ic_0 ?_
  refine rx_istore C [(4, .int (0 : Int32)), (3, .int (0 : Int32)), (0, .ref (α 18)), (1, .int x1), (2, .int x2)] dX1_gainableAt_3 (by decide) rfl ?_
  exact RX.loc (w_X1_gainableAt_5 C FU x1 x2 (0 : Int32) (0 : Int32) σ) [2, 3, 4, 1, 0] rfl
theorem m_X1_gainableAt (l : Launch) {α : Nat → Nat} {D : va_G} {cA : Nat → ClassId} (hin : inj shX.length α) (x1 : Int32) (x2 : Int32) (σ : St) : CT shX l yX1_gainableAt cX1_gainableAt 5 (some .int) 6 150 emI α D cA [.ref (α 18), .int x1, .int x2] σ (f_X1_gainableAt x1 x2 σ) := ct_of rfl (Nat.le_of_ble_eq_true rfl) hin (fun z _ C => w_X1_gainableAt_e C x1 x2 σ)
set_option maxRecDepth 100000 in
set_option maxHeartbeats 4000000 in
theorem w_X1_draw_40 {α : Nat → Nat} {D : va_G} {cA : Nat → ClassId} {z : Cz} (C : CX shX α D cA z RX1 cX1_draw 2 (some .int) 0 0) (s0 : Int32) (σ : St) : RX emI shX α D cA z 2 σ 40 [] [.int s0] (f_X1_draw_40 s0 σ) := by
  unfold f_X1_draw_40
  exact rx_iret C dX1_draw_40
set_option maxRecDepth 100000 in
set_option maxHeartbeats 4000000 in
theorem w_X1_draw_e {α : Nat → Nat} {D : va_G} {cA : Nat → ClassId} {z : Cz} (C : CX shX α D cA z RX1 cX1_draw 2 (some .int) 0 0) (x1 : Int32) (σ : St) : RX emI shX α D cA z 2 σ 0 [(0, .ref (α 18)), (1, .int x1)] [] (f_X1_draw x1 σ) := by
  unfold f_X1_draw
  refine rx_aload_n C 0 dX1_draw_0 rfl rfl ?_
  refine rx_ldc2_w C lk_X1_182 dX1_draw_1 ?_
  refine rx_aload_n C 0 dX1_draw_4 rfl rfl ?_
  refine rx_getL C (k := 4) sx_18 fc_X1 (by decide) rfl lk_X1_35 dX1_draw_5 ?_
  refine rx_lmul C dX1_draw_8 ?_
  refine rx_ldc2_w C lk_X1_184 dX1_draw_9 ?_
  refine rx_ladd C dX1_draw_12 ?_
  refine rx_ldc2_w C lk_X1_186 dX1_draw_13 ?_
  refine rx_lremC C dX1_draw_16 (by decide) ?_
  refine rx_putL C (k := 4) sx_18 fc_X1 (by decide) rfl lk_X1_35 rfl ⟨rfl, rfl⟩ dX1_draw_17 ?_
  refine rx_lts (fun σ2 => ?_)
  refine rx_iload_n C 1 dX1_draw_20 rfl rfl ?_
  refine rx_if_gt C (tgt := 28) dX1_draw_21 (by decide) (fun _ => ?_) (fun _ => ?_)
  · refine rx_aload_n C 0 dX1_draw_28 rfl rfl ?_
    refine rx_getL C (k := 4) sx_18 fc_X1 (by decide) rfl lk_X1_35 dX1_draw_29 ?_
    refine rx_ldc2_w C lk_X1_188 dX1_draw_32 ?_
    refine rx_ldivC C dX1_draw_35 (by decide) ?_
    refine rx_iload_n C 1 dX1_draw_36 rfl rfl ?_
    refine rx_i2l C dX1_draw_37 ?_
    refine rx_lrem C dX1_draw_38 (fun _ => ?_)
    refine rx_l2i C dX1_draw_39 ?_
    exact RX.loc (w_X1_draw_40 C ((jlrem ((gL σ2 18 4) / (64 : Int64)) ((x1).toInt64)).toInt32) σ2) [] rfl
  · refine rx_iconst C dX1_draw_24 ic_0 ?_
    refine rx_goto C (tgt := 40) dX1_draw_25 (by decide) ?_
    exact RX.loc (w_X1_draw_40 C (0 : Int32) σ2) [] rfl
theorem m_X1_draw (l : Launch) {α : Nat → Nat} {D : va_G} {cA : Nat → ClassId} (hin : inj shX.length α) (x1 : Int32) (σ : St) : CT shX l yX1_draw cX1_draw 2 (some .int) 0 0 emI α D cA [.ref (α 18), .int x1] σ (f_X1_draw x1 σ) := ct_of rfl (Nat.le_of_ble_eq_true rfl) hin (fun z _ C => w_X1_draw_e C x1 σ)
set_option maxRecDepth 100000 in
set_option maxHeartbeats 4000000 in
theorem w_X1_sow_e {α : Nat → Nat} {D : va_G} {cA : Nat → ClassId} {z : Cz} (C : CX shX α D cA z RX1 cX1_sow 2 (some .boolean) 0 0) (x1 : Int32) (σ : St) : RX emI shX α D cA z 2 σ 0 [(0, .ref (α 18)), (1, .int x1)] [] (f_X1_sow x1 σ) := by
  unfold f_X1_sow
  refine rx_iload_n C 1 dX1_sow_0 rfl rfl ?_
  refine rx_if_ge C (tgt := 6) dX1_sow_1 (by decide) (fun _ => ?_) (fun _ => ?_)
  · refine rx_aload_n C 0 dX1_sow_6 rfl rfl ?_
    refine rx_iload_n C 1 dX1_sow_7 rfl rfl ?_
    refine rx_i2l C dX1_sow_8 ?_
    refine rx_putL C (k := 4) sx_18 fc_X1 (by decide) rfl lk_X1_35 rfl ⟨rfl, rfl⟩ dX1_sow_9 ?_
    refine rx_lts (fun σ2 => ?_)
    refine rx_iconst C dX1_sow_12 ic_1 ?_
    exact rx_zretC C dX1_sow_13 rfl
  · refine rx_iconst C dX1_sow_4 ic_0 ?_
    exact rx_zretC C dX1_sow_5 rfl
theorem m_X1_sow (l : Launch) {α : Nat → Nat} {D : va_G} {cA : Nat → ClassId} (hin : inj shX.length α) (x1 : Int32) (σ : St) : CT shX l yX1_sow cX1_sow 2 (some .boolean) 0 0 emI α D cA [.ref (α 18), .int x1] σ (f_X1_sow x1 σ) := ct_of rfl (Nat.le_of_ble_eq_true rfl) hin (fun z _ C => w_X1_sow_e C x1 σ)
set_option maxRecDepth 100000 in
set_option maxHeartbeats 4000000 in
theorem w_J7_fill_53178_5 {α : Nat → Nat} {D : va_G} {cA : Nat → ClassId} {z : Cz} (C : CX shX α D cA z RJ7 cJ7_fill_53178 4 none 0 0) (r0 : Nat) (hr0 : arI r0) : ∀ (n : Nat) (x1 : Int32) (x2 : Int32) (x3 : Int32) (σ : St), RX emV shX α D cA z 4 σ 5 [(0, .ref (α r0)), (1, .int x1), (2, .int x2), (3, .int x3)] [] (f_J7_fill_53178_5 r0 n x1 x2 x3 σ) := by
  intro n
  induction n with
  | zero => intros; exact rx_none
  | succ n hk_5 =>
    intro x1 x2 x3 σ
    rw [f_J7_fill_53178_5.eq_2]
    refine rx_iload_n C 2 dJ7_fill_53178_5 rfl rfl ?_
    refine rx_iload_n C 3 dJ7_fill_53178_6 rfl rfl ?_
    refine rx_icmp_ge C (tgt := 20) dJ7_fill_53178_7 (by decide) (fun _ => ?_) (fun _ => ?_)
    · exact rx_vret C dJ7_fill_53178_20
    · refine rx_aload_n C 0 dJ7_fill_53178_10 rfl rfl ?_
      refine rx_iload_n C 2 dJ7_fill_53178_11 rfl rfl ?_
      refine rx_iload_n C 1 dJ7_fill_53178_12 rfl rfl ?_
      refine rx_iast C (n := (lnX r0)) hr0 dJ7_fill_53178_13 (fun _ => ?_)
      refine rx_lts (fun σ4 => ?_)
      refine rx_iinc C (k0 := 2) (v := x2 + (1 : Int32)) [(2, .int (x2 + (1 : Int32))), (0, .ref (α r0)), (1, .int x1), (3, .int x3)] dJ7_fill_53178_14 rfl (congrArg _ ic_1) (by decide) rfl ?_
      refine rx_goto C (tgt := 5) dJ7_fill_53178_17 (by decide) ?_
      exact RX.loc (hk_5 x1 (x2 + (1 : Int32)) x3 σ4) [1, 2, 0, 3] rfl
set_option maxRecDepth 100000 in
set_option maxHeartbeats 4000000 in
theorem w_J7_fill_53178_e {α : Nat → Nat} {D : va_G} {cA : Nat → ClassId} {z : Cz} (C : CX shX α D cA z RJ7 cJ7_fill_53178 4 none 0 0) (r0 : Nat) (hr0 : arI r0) (x1 : Int32) (σ : St) : RX emV shX α D cA z 4 σ 0 [(0, .ref (α r0)), (1, .int x1)] [] (f_J7_fill_53178 r0 x1 σ) := by
  unfold f_J7_fill_53178
  refine rx_iconst C dJ7_fill_53178_0 ic_0 ?_
  refine rx_istore_n C [(2, .int (0 : Int32)), (0, .ref (α r0)), (1, .int x1)] dJ7_fill_53178_1 rfl (by decide) rfl ?_
  refine rx_aload_n C 1 dJ7_fill_53178_2 rfl rfl ?_
  refine rx_alen C (n := (lnX r0)) hr0 rfl dJ7_fill_53178_3 ?_
  refine rx_lti (fun w3 => ?_)
  refine rx_istore_n C [(3, .int w3), (2, .int (0 : Int32)), (0, .ref (α r0)), (1, .int x1)] dJ7_fill_53178_4 rfl (by decide) rfl ?_
  exact RX.loc (w_J7_fill_53178_5 C r0 hr0 FU x1 (0 : Int32) w3 σ) [2, 3, 1, 0] rfl
theorem m_J7_fill_53178 (l : Launch) {α : Nat → Nat} {D : va_G} {cA : Nat → ClassId} (hin : inj shX.length α) (r0 : Nat) (hr0 : arI r0) (x1 : Int32) (σ : St) : CT shX l yJ7_fill_53178 cJ7_fill_53178 4 none 0 0 emV α D cA [.ref (α r0), .int x1] σ (f_J7_fill_53178 r0 x1 σ) := ct_ofF (by decide +kernel) (Nat.le_of_ble_eq_true rfl) hin (fun z _ C => w_J7_fill_53178_e C r0 hr0 x1 σ)
set_option maxRecDepth 100000 in
set_option maxHeartbeats 4000000 in
theorem w_X2_bearAnew_e {α : Nat → Nat} {D : va_G} {cA : Nat → ClassId} {z : Cz} (C : CX shX α D cA z RX2 cX2_bearAnew 1 none 1 23) (σ : St) : RX emV shX α D cA z 1 σ 0 [(0, .ref (α 6))] [] (f_X2_bearAnew σ) := by
  unfold f_X2_bearAnew
  refine rx_aload_n C 0 dX2_bearAnew_0 rfl rfl ?_
  refine rx_getC C (k := 10) sx_6 fc_X2 (by decide) 13 rfl lk_X2_49 dX2_bearAnew_1 ?_
  refine rx_callVv C [] [] (m_X7_clear z.l C.inj 13 rn_13 σ) mv_X7_clear lk_X2_84 sx_13 rfl rfl rfl (Nat.le_of_ble_eq_true rfl) ⟨Nat.le_of_ble_eq_true rfl, Nat.le_of_ble_eq_true rfl⟩ dX2_bearAnew_4 (fun q3 => ?_)
  refine rx_aload_n C 0 dX2_bearAnew_7 rfl rfl ?_
  refine rx_getC C (k := 7) sx_6 fc_X2 (by decide) 10 rfl lk_X2_35 dX2_bearAnew_8 ?_
  refine rx_aload_n C 0 dX2_bearAnew_11 rfl rfl ?_
  refine rx_getI C (k := 1) sx_6 fc_X2 (by decide) rfl lk_X2_15 dX2_bearAnew_12 ?_
  refine rx_callSv C [.ref (α 10), .int (gI q3.2 6 1)] [] (m_J7_fill_53178 z.l C.inj 10 rfl (gI q3.2 6 1) q3.2) ms_J7_fill_53178 lk_X2_63 rfl rfl (Nat.le_of_ble_eq_true rfl) ⟨Nat.le_of_ble_eq_true rfl, Nat.le_of_ble_eq_true rfl⟩ dX2_bearAnew_15 (fun q4 => ?_)
  exact rx_vret C dX2_bearAnew_18
theorem m_X2_bearAnew (l : Launch) {α : Nat → Nat} {D : va_G} {cA : Nat → ClassId} (hin : inj shX.length α) (σ : St) : CT shX l yX2_bearAnew cX2_bearAnew 1 none 1 23 emV α D cA [.ref (α 6)] σ (f_X2_bearAnew σ) := ct_of rfl (Nat.le_of_ble_eq_true rfl) hin (fun z _ C => w_X2_bearAnew_e C σ)
set_option maxRecDepth 100000 in
set_option maxHeartbeats 4000000 in
theorem w_X2_settle_e {α : Nat → Nat} {D : va_G} {cA : Nat → ClassId} {z : Cz} (C : CX shX α D cA z RX2 cX2_settle 2 none 2 60) (r1 : Nat) (hr1 : isLand r1) (σ : St) : RX emV shX α D cA z 2 σ 0 [(0, .ref (α 6)), (1, .ref (α r1))] [] (f_X2_settle r1 σ) := by
  unfold f_X2_settle
  refine rx_aload_n C 0 dX2_settle_0 rfl rfl ?_
  refine rx_aload_n C 1 dX2_settle_1 rfl rfl ?_
  refine rx_putR C (k := 0) sx_6 fc_X2 (by decide) rfl lk_X2_9 rfl ⟨rfl, rfl⟩ dX2_settle_2 ?_
  refine rx_lts (fun σ12 => ?_)
  refine rx_aload_n C 0 dX2_settle_5 rfl rfl ?_
  refine rx_aload_n C 0 dX2_settle_6 rfl rfl ?_
  refine rx_getR C (k := 0) sx_6 fc_X2 (by decide) rfl lk_X2_9 dX2_settle_7 ?_
  refine rx_ltr (fun g13 => ?_)
  refine rx_if (fun hg13 => ?_) (fun _ => rx_none)
  refine rx_getI C (k := 10) (ld_sh (landB_is hg13)) fc_X4 (by decide) rfl lk_X2_60 dX2_settle_10 ?_
  refine rx_putI C (k := 1) sx_6 fc_X2 (by decide) rfl lk_X2_15 rfl ⟨rfl, rfl⟩ dX2_settle_13 ?_
  refine rx_lts (fun σ14 => ?_)
  refine rx_aload_n C 0 dX2_settle_16 rfl rfl ?_
  refine rx_iconst C dX2_settle_17 ic_0 ?_
  refine rx_putI C (k := 2) sx_6 fc_X2 (by decide) rfl lk_X2_19 rfl ⟨rfl, rfl⟩ dX2_settle_18 ?_
  refine rx_lts (fun σ15 => ?_)
  refine rx_aload_n C 0 dX2_settle_21 rfl rfl ?_
  refine rx_iconst C dX2_settle_22 ic_0 ?_
  refine rx_putI C (k := 3) sx_6 fc_X2 (by decide) rfl lk_X2_22 rfl ⟨rfl, rfl⟩ dX2_settle_23 ?_
  refine rx_lts (fun σ16 => ?_)
  refine rx_aload_n C 0 dX2_settle_26 rfl rfl ?_
  refine rx_getC C (k := 5) sx_6 fc_X2 (by decide) 8 rfl lk_X2_29 dX2_settle_27 ?_
  refine rx_iconst C dX2_settle_30 ic_0 ?_
  refine rx_callSv C [.ref (α 8), .int (0 : Int32)] [] (m_J7_fill_53178 z.l C.inj 8 rfl (0 : Int32) σ16) ms_J7_fill_53178 lk_X2_63 rfl rfl (Nat.le_of_ble_eq_true rfl) ⟨Nat.le_of_ble_eq_true rfl, Nat.le_of_ble_eq_true rfl⟩ dX2_settle_31 (fun q17 => ?_)
  refine rx_aload_n C 0 dX2_settle_34 rfl rfl ?_
  refine rx_getR C (k := 0) sx_6 fc_X2 (by decide) rfl lk_X2_9 dX2_settle_35 ?_
  refine rx_ltr (fun g18 => ?_)
  refine rx_if (fun hg18 => ?_) (fun _ => rx_none)
  refine rx_getC C (k := 7) (ld_sh (landB_is hg18)) fc_X4 (by decide) (g18 + 18) rfl lk_X2_69 dX2_settle_38 ?_
  refine rx_iconst C dX2_settle_41 ic_0 ?_
  refine rx_aload_n C 0 dX2_settle_42 rfl rfl ?_
  refine rx_getC C (k := 4) sx_6 fc_X2 (by decide) 7 rfl lk_X2_25 dX2_settle_43 ?_
  refine rx_iconst C dX2_settle_46 ic_0 ?_
  refine rx_bipush C dX2_settle_47 bp_8 ?_
  refine rx_acopy C (n0 := 8) (n1 := 8) (sp1 := 0) (dp1 := 0) (nn := 8) (ldl_18 (landB_is hg18)) sx_7 lk_X2_72 (by decide) (by decide) (by decide) (by decide) (by decide) (by decide) (by decide) (by decide) (Nat.le_of_ble_eq_true rfl) (Nat.le_of_ble_eq_true rfl) dX2_settle_49 ?_
  refine rx_lts (fun σ19 => ?_)
  refine rx_aload_n C 0 dX2_settle_52 rfl rfl ?_
  refine rx_getR C (k := 0) sx_6 fc_X2 (by decide) rfl lk_X2_9 dX2_settle_53 ?_
  refine rx_ltr (fun g20 => ?_)
  refine rx_if (fun hg20 => ?_) (fun _ => rx_none)
  refine rx_getC C (k := 6) (ld_sh (landB_is hg20)) fc_X4 (by decide) (g20 + 17) rfl lk_X2_78 dX2_settle_56 ?_
  refine rx_iconst C dX2_settle_59 ic_0 ?_
  refine rx_aload_n C 0 dX2_settle_60 rfl rfl ?_
  refine rx_getC C (k := 5) sx_6 fc_X2 (by decide) 8 rfl lk_X2_29 dX2_settle_61 ?_
  refine rx_sipush C dX2_settle_64 sp_208 ?_
  refine rx_bipush C dX2_settle_67 bp_26 ?_
  refine rx_acopy C (n0 := 26) (n1 := 234) (sp1 := 0) (dp1 := 208) (nn := 26) (ldl_17 (landB_is hg20)) sx_8 lk_X2_72 (by decide) (by decide) (by decide) (by decide) (by decide) (by decide) (by decide) (by decide) (Nat.le_of_ble_eq_true rfl) (Nat.le_of_ble_eq_true rfl) dX2_settle_69 ?_
  refine rx_lts (fun σ21 => ?_)
  refine rx_aload_n C 0 dX2_settle_72 rfl rfl ?_
  refine rx_callVv C [] [] (m_X2_bearAnew z.l C.inj σ21) mv_X2_bearAnew lk_X2_81 sx_6 rfl rfl rfl (Nat.le_of_ble_eq_true rfl) ⟨Nat.le_of_ble_eq_true rfl, Nat.le_of_ble_eq_true rfl⟩ dX2_settle_73 (fun q22 => ?_)
  exact rx_vret C dX2_settle_76
theorem m_X2_settle (l : Launch) {α : Nat → Nat} {D : va_G} {cA : Nat → ClassId} (hin : inj shX.length α) (r1 : Nat) (hr1 : isLand r1) (σ : St) : CT shX l yX2_settle cX2_settle 2 none 2 60 emV α D cA [.ref (α 6), .ref (α r1)] σ (f_X2_settle r1 σ) := ct_of rfl (Nat.le_of_ble_eq_true rfl) hin (fun z _ C => w_X2_settle_e C r1 hr1 σ)
set_option maxRecDepth 100000 in
set_option maxHeartbeats 4000000 in
theorem w_X2_bearers_33 {α : Nat → Nat} {D : va_G} {cA : Nat → ClassId} {z : Cz} (C : CX shX α D cA z RX2 cX2_bearers 4 (some .int) 2 43) (k_4 : Int32 → Int32 → Int32 → St → Option (Int32 × St)) (hk_4 : ∀ (x1 : Int32) (x2 : Int32) (x3 : Int32) (σ : St), RX emI shX α D cA z 4 σ 4 [(0, .ref (α 6)), (1, .int x1), (2, .int x2), (3, .int x3)] [] (k_4 x1 x2 x3 σ)) (x1 : Int32) (x2 : Int32) (x3 : Int32) (σ : St) : RX emI shX α D cA z 4 σ 33 [(0, .ref (α 6)), (1, .int x1), (2, .int x2), (3, .int x3)] [] (f_X2_bearers_33 k_4 x1 x2 x3 σ) := by
  unfold f_X2_bearers_33
  refine rx_iinc C (k0 := 3) (v := x3 + (1 : Int32)) [(3, .int (x3 + (1 : Int32))), (0, .ref (α 6)), (1, .int x1), (2, .int x2)] dX2_bearers_33 rfl (congrArg _ ic_1) (by decide) rfl ?_
  refine rx_goto C (tgt := 4) dX2_bearers_36 (by decide) ?_
  exact RX.loc (hk_4 x1 x2 (x3 + (1 : Int32)) σ) [1, 2, 3, 0] rfl
set_option maxRecDepth 100000 in
set_option maxHeartbeats 4000000 in
theorem w_X2_bearers_4 {α : Nat → Nat} {D : va_G} {cA : Nat → ClassId} {z : Cz} (C : CX shX α D cA z RX2 cX2_bearers 4 (some .int) 2 43) : ∀ (n : Nat) (x1 : Int32) (x2 : Int32) (x3 : Int32) (σ : St), RX emI shX α D cA z 4 σ 4 [(0, .ref (α 6)), (1, .int x1), (2, .int x2), (3, .int x3)] [] (f_X2_bearers_4 n x1 x2 x3 σ) := by
  intro n
  induction n with
  | zero => intros; exact rx_none
  | succ n hk_4 =>
    intro x1 x2 x3 σ
    rw [f_X2_bearers_4.eq_2]
    refine rx_iload_n C 3 dX2_bearers_4 rfl rfl ?_
    refine rx_aload_n C 0 dX2_bearers_5 rfl rfl ?_
    refine rx_getR C (k := 0) sx_6 fc_X2 (by decide) rfl lk_X2_9 dX2_bearers_6 ?_
    refine rx_ltr (fun g4 => ?_)
    refine rx_if (fun hg4 => ?_) (fun _ => rx_none)
    refine rx_getC C (k := 0) (ld_sh (landB_is hg4)) fc_X4 (by decide) (g4 + 1) rfl lk_X2_87 dX2_bearers_9 ?_
    refine rx_getI C (k := 4) (ro_sh (ld_1 (landB_is hg4))) fc_X8 (by decide) rfl lk_X2_103 dX2_bearers_12 ?_
    refine rx_icmp_ge C (tgt := 39) dX2_bearers_15 (by decide) (fun _ => ?_) (fun _ => ?_)
    · refine rx_iload_n C 2 dX2_bearers_39 rfl rfl ?_
      exact rx_iret C dX2_bearers_40
    · refine rx_aload_n C 0 dX2_bearers_18 rfl rfl ?_
      refine rx_iload_n C 3 dX2_bearers_19 rfl rfl ?_
      refine rx_iload_n C 1 dX2_bearers_20 rfl rfl ?_
      refine rx_callVi C [.int x3, .int x1] [] (m_X2_bears z.l C.inj x3 x1 σ) mv_X2_bears lk_X2_99 sx_6 rfl rfl rfl (Nat.le_of_ble_eq_true rfl) ⟨Nat.le_of_ble_eq_true rfl, Nat.le_of_ble_eq_true rfl⟩ dX2_bearers_21 (fun q5 => ?_)
      refine rx_if_eq C (tgt := 33) dX2_bearers_24 (by decide) (fun _ => ?_) (fun _ => ?_)
      · exact RX.loc (w_X2_bearers_33 C (f_X2_bearers_4 n) hk_4 x1 x2 x3 q5.2) [0, 1, 2, 3] rfl
      · refine rx_iload_n C 2 dX2_bearers_27 rfl rfl ?_
        refine rx_iconst C dX2_bearers_28 ic_1 ?_
        refine rx_iload_n C 3 dX2_bearers_29 rfl rfl ?_
        refine rx_ishl C dX2_bearers_30 ?_
        refine rx_ior C dX2_bearers_31 ?_
        refine rx_lti (fun w6 => ?_)
        refine rx_istore_n C [(2, .int w6), (0, .ref (α 6)), (1, .int x1), (3, .int x3)] dX2_bearers_32 rfl (by decide) rfl ?_
        exact RX.loc (w_X2_bearers_33 C (f_X2_bearers_4 n) hk_4 x1 w6 x3 q5.2) [1, 2, 0, 3] rfl
set_option maxRecDepth 100000 in
set_option maxHeartbeats 4000000 in
theorem w_X2_bearers_e {α : Nat → Nat} {D : va_G} {cA : Nat → ClassId} {z : Cz} (C : CX shX α D cA z RX2 cX2_bearers 4 (some .int) 2 43) (x1 : Int32) (σ : St) : RX emI shX α D cA z 4 σ 0 [(0, .ref (α 6)), (1, .int x1)] [] (f_X2_bearers x1 σ) := by
  unfold f_X2_bearers
  refine rx_iconst C dX2_bearers_0 ic_0 ?_
  refine rx_istore_n C [(2, .int (0 : Int32)), (0, .ref (α 6)), (1, .int x1)] dX2_bearers_1 rfl (by decide) rfl ?_
  refine rx_iconst C dX2_bearers_2 ic_0 ?_
  refine rx_istore_n C [(3, .int (0 : Int32)), (2, .int (0 : Int32)), (0, .ref (α 6)), (1, .int x1)] dX2_bearers_3 rfl (by decide) rfl ?_
  exact RX.loc (w_X2_bearers_4 C FU x1 (0 : Int32) (0 : Int32) σ) [2, 3, 1, 0] rfl
theorem m_X2_bearers (l : Launch) {α : Nat → Nat} {D : va_G} {cA : Nat → ClassId} (hin : inj shX.length α) (x1 : Int32) (σ : St) : CT shX l yX2_bearers cX2_bearers 4 (some .int) 2 43 emI α D cA [.ref (α 6), .int x1] σ (f_X2_bearers x1 σ) := ct_of rfl (Nat.le_of_ble_eq_true rfl) hin (fun z _ C => w_X2_bearers_e C x1 σ)
set_option maxRecDepth 100000 in
set_option maxHeartbeats 4000000 in
theorem w_X7_get_24 {α : Nat → Nat} {D : va_G} {cA : Nat → ClassId} {z : Cz} (C : CX shX α D cA z RX7 cX7_get 3 (some .int) 1 22) (r0 : Nat) (hr0 : isRing r0) (σ : St) : RX emI shX α D cA z 3 σ 24 [] [] (f_X7_get_24 r0 σ) := by
  unfold f_X7_get_24
  refine rx_iconst C dX7_get_24 ic_m1 ?_
  exact rx_iret C dX7_get_25
set_option maxRecDepth 100000 in
set_option maxHeartbeats 4000000 in
theorem w_X7_get_e {α : Nat → Nat} {D : va_G} {cA : Nat → ClassId} {z : Cz} (C : CX shX α D cA z RX7 cX7_get 3 (some .int) 1 22) (r0 : Nat) (hr0 : isRing r0) (x1 : Int32) (x2 : Int32) (σ : St) : RX emI shX α D cA z 3 σ 0 [(0, .ref (α r0)), (1, .int x1), (2, .int x2)] [] (f_X7_get r0 x1 x2 σ) := by
  unfold f_X7_get
  refine rx_iload_n C 1 dX7_get_0 rfl rfl ?_
  refine rx_if_lt C (tgt := 24) dX7_get_1 (by decide) (fun _ => ?_) (fun _ => ?_)
  · exact RX.loc (w_X7_get_24 C r0 hr0 σ) [] rfl
  · refine rx_iload_n C 1 dX7_get_4 rfl rfl ?_
    refine rx_aload_n C 0 dX7_get_5 rfl rfl ?_
    refine rx_getI C (k := 4) (ri_sh hr0) fc_X7 (by decide) rfl lk_X7_25 dX7_get_6 ?_
    refine rx_icmp_ge C (tgt := 24) dX7_get_9 (by decide) (fun _ => ?_) (fun _ => ?_)
    · exact RX.loc (w_X7_get_24 C r0 hr0 σ) [] rfl
    · refine rx_iload_n C 2 dX7_get_12 rfl rfl ?_
      refine rx_if_lt C (tgt := 24) dX7_get_13 (by decide) (fun _ => ?_) (fun _ => ?_)
      · exact RX.loc (w_X7_get_24 C r0 hr0 σ) [] rfl
      · refine rx_iload_n C 2 dX7_get_16 rfl rfl ?_
        refine rx_aload_n C 0 dX7_get_17 rfl rfl ?_
        refine rx_getI C (k := 1) (ri_sh hr0) fc_X7 (by decide) rfl lk_X7_15 dX7_get_18 ?_
        refine rx_icmp_lt C (tgt := 26) dX7_get_21 (by decide) (fun _ => ?_) (fun _ => ?_)
        · refine rx_aload_n C 0 dX7_get_26 rfl rfl ?_
          refine rx_getC C (k := 2) (ri_sh hr0) fc_X7 (by decide) (r0 + 1) rfl lk_X7_18 dX7_get_27 ?_
          refine rx_aload_n C 0 dX7_get_30 rfl rfl ?_
          refine rx_iload_n C 1 dX7_get_31 rfl rfl ?_
          refine rx_callVi C [.int x1] [.ref (α (r0 + 1))] (m_X7_place z.l C.inj r0 hr0 x1 σ) mv_X7_place lk_X7_28 (ri_sh hr0) rfl rfl rfl (Nat.le_of_ble_eq_true rfl) ⟨Nat.le_of_ble_eq_true rfl, Nat.le_of_ble_eq_true rfl⟩ dX7_get_32 (fun q2 => ?_)
          refine rx_aload_n C 0 dX7_get_35 rfl rfl ?_
          refine rx_getI C (k := 1) (ri_sh hr0) fc_X7 (by decide) rfl lk_X7_15 dX7_get_36 ?_
          refine rx_imul C dX7_get_39 ?_
          refine rx_iload_n C 2 dX7_get_40 rfl rfl ?_
          refine rx_iadd C dX7_get_41 ?_
          refine rx_iald C (n := (lnX (r0 + 1))) (ri_1 hr0) dX7_get_42 (fun _ => ?_)
          exact rx_iret C dX7_get_43
        · exact RX.loc (w_X7_get_24 C r0 hr0 σ) [] rfl
theorem m_X7_get (l : Launch) {α : Nat → Nat} {D : va_G} {cA : Nat → ClassId} (hin : inj shX.length α) (r0 : Nat) (hr0 : isRing r0) (x1 : Int32) (x2 : Int32) (σ : St) : CT shX l yX7_get cX7_get 3 (some .int) 1 22 emI α D cA [.ref (α r0), .int x1, .int x2] σ (f_X7_get r0 x1 x2 σ) := ct_of rfl (Nat.le_of_ble_eq_true rfl) hin (fun z _ C => w_X7_get_e C r0 hr0 x1 x2 σ)
set_option maxRecDepth 100000 in
set_option maxHeartbeats 4000000 in
theorem w_X2_signers_139 {α : Nat → Nat} {D : va_G} {cA : Nat → ClassId} {z : Cz} (C : CX shX α D cA z RX2 cX2_signers 5 (some .int) 2 44) (k_83 : Int32 → Int32 → Int32 → Int32 → St → Option (Int32 × St)) (hk_83 : ∀ (x1 : Int32) (x2 : Int32) (x3 : Int32) (x4 : Int32) (σ : St), RX emI shX α D cA z 5 σ 83 [(0, .ref (α 6)), (1, .int x1), (2, .int x2), (3, .int x3), (4, .int x4)] [] (k_83 x1 x2 x3 x4 σ)) (x1 : Int32) (x2 : Int32) (x3 : Int32) (x4 : Int32) (σ : St) : RX emI shX α D cA z 5 σ 139 [(0, .ref (α 6)), (1, .int x1), (2, .int x2), (3, .int x3), (4, .int x4)] [] (f_X2_signers_139 k_83 x1 x2 x3 x4 σ) := by
  unfold f_X2_signers_139
  refine rx_iinc C (k0 := 4) (v := x4 + (1 : Int32)) [(4, .int (x4 + (1 : Int32))), (0, .ref (α 6)), (1, .int x1), (2, .int x2), (3, .int x3)] dX2_signers_139 rfl (congrArg _ ic_1) (by decide) rfl ?_
  refine rx_goto C (tgt := 83) dX2_signers_142 (by decide) ?_
  exact RX.loc (hk_83 x1 x2 x3 (x4 + (1 : Int32)) σ) [1, 2, 3, 4, 0] rfl
set_option maxRecDepth 100000 in
set_option maxHeartbeats 4000000 in
theorem w_X2_signers_83 {α : Nat → Nat} {D : va_G} {cA : Nat → ClassId} {z : Cz} (C : CX shX α D cA z RX2 cX2_signers 5 (some .int) 2 44) : ∀ (n : Nat) (x1 : Int32) (x2 : Int32) (x3 : Int32) (x4 : Int32) (σ : St), RX emI shX α D cA z 5 σ 83 [(0, .ref (α 6)), (1, .int x1), (2, .int x2), (3, .int x3), (4, .int x4)] [] (f_X2_signers_83 n x1 x2 x3 x4 σ) := by
  intro n
  induction n with
  | zero => intros; exact rx_none
  | succ n hk_83 =>
    intro x1 x2 x3 x4 σ
    rw [f_X2_signers_83.eq_2]
    refine rx_iload C 4 dX2_signers_83 rfl ?_
    refine rx_aload_n C 0 dX2_signers_85 rfl rfl ?_
    refine rx_getR C (k := 0) sx_6 fc_X2 (by decide) rfl lk_X2_9 dX2_signers_86 ?_
    refine rx_ltr (fun g9 => ?_)
    refine rx_if (fun hg9 => ?_) (fun _ => rx_none)
    refine rx_getC C (k := 0) (ld_sh (landB_is hg9)) fc_X4 (by decide) (g9 + 1) rfl lk_X2_87 dX2_signers_89 ?_
    refine rx_getI C (k := 4) (ro_sh (ld_1 (landB_is hg9))) fc_X8 (by decide) rfl lk_X2_103 dX2_signers_92 ?_
    refine rx_icmp_ge C (tgt := 145) dX2_signers_95 (by decide) (fun _ => ?_) (fun _ => ?_)
    · refine rx_iload_n C 3 dX2_signers_145 rfl rfl ?_
      exact rx_iret C dX2_signers_146
    · refine rx_aload_n C 0 dX2_signers_98 rfl rfl ?_
      refine rx_iload C 4 dX2_signers_99 rfl ?_
      refine rx_iload_n C 1 dX2_signers_101 rfl rfl ?_
      refine rx_callVi C [.int x4, .int x1] [] (m_X2_bears z.l C.inj x4 x1 σ) mv_X2_bears lk_X2_99 sx_6 rfl rfl rfl (Nat.le_of_ble_eq_true rfl) ⟨Nat.le_of_ble_eq_true rfl, Nat.le_of_ble_eq_true rfl⟩ dX2_signers_102 (fun q10 => ?_)
      refine rx_if_eq C (tgt := 139) dX2_signers_105 (by decide) (fun _ => ?_) (fun _ => ?_)
      · exact RX.loc (w_X2_signers_139 C (f_X2_signers_83 n) hk_83 x1 x2 x3 x4 q10.2) [0, 1, 2, 3, 4] rfl
      · refine rx_aload_n C 0 dX2_signers_108 rfl rfl ?_
        refine rx_getC C (k := 7) sx_6 fc_X2 (by decide) 10 rfl lk_X2_35 dX2_signers_109 ?_
        refine rx_iload C 4 dX2_signers_112 rfl ?_
        refine rx_bipush C dX2_signers_114 bp_12 ?_
        refine rx_imul C dX2_signers_116 ?_
        refine rx_iload_n C 1 dX2_signers_117 rfl rfl ?_
        refine rx_iadd C dX2_signers_118 ?_
        refine rx_iald C (n := 96) sx_10 dX2_signers_119 (fun _ => ?_)
        refine rx_iload_n C 2 dX2_signers_120 rfl rfl ?_
        refine rx_icmp_gt C (tgt := 139) dX2_signers_121 (by decide) (fun _ => ?_) (fun _ => ?_)
        · exact RX.loc (w_X2_signers_139 C (f_X2_signers_83 n) hk_83 x1 x2 x3 x4 q10.2) [0, 1, 2, 3, 4] rfl
        · refine rx_iload_n C 2 dX2_signers_124 rfl rfl ?_
          refine rx_aload_n C 0 dX2_signers_125 rfl rfl ?_
          refine rx_getI C (k := 1) sx_6 fc_X2 (by decide) rfl lk_X2_15 dX2_signers_126 ?_
          refine rx_icmp_gt C (tgt := 139) dX2_signers_129 (by decide) (fun _ => ?_) (fun _ => ?_)
          · exact RX.loc (w_X2_signers_139 C (f_X2_signers_83 n) hk_83 x1 x2 x3 x4 q10.2) [0, 1, 2, 3, 4] rfl
          · refine rx_iload_n C 3 dX2_signers_132 rfl rfl ?_
            refine rx_iconst C dX2_signers_133 ic_1 ?_
            refine rx_iload C 4 dX2_signers_134 rfl ?_
            refine rx_ishl C dX2_signers_136 ?_
            refine rx_ior C dX2_signers_137 ?_
            refine rx_lti (fun w11 => ?_)
            refine rx_istore_n C [(3, .int w11), (0, .ref (α 6)), (1, .int x1), (2, .int x2), (4, .int x4)] dX2_signers_138 rfl (by decide) rfl ?_
            exact RX.loc (w_X2_signers_139 C (f_X2_signers_83 n) hk_83 x1 x2 w11 x4 q10.2) [1, 2, 3, 0, 4] rfl
set_option maxRecDepth 100000 in
set_option maxHeartbeats 4000000 in
theorem w_X2_signers_74 {α : Nat → Nat} {D : va_G} {cA : Nat → ClassId} {z : Cz} (C : CX shX α D cA z RX2 cX2_signers 5 (some .int) 2 44) (k_5 : Int32 → Int32 → Int32 → Int32 → St → Option (Int32 × St)) (hk_5 : ∀ (x1 : Int32) (x2 : Int32) (x3 : Int32) (x4 : Int32) (σ : St), RX emI shX α D cA z 5 σ 5 [(0, .ref (α 6)), (1, .int x1), (2, .int x2), (3, .int x3), (4, .int x4)] [] (k_5 x1 x2 x3 x4 σ)) (x1 : Int32) (x2 : Int32) (x3 : Int32) (x4 : Int32) (σ : St) : RX emI shX α D cA z 5 σ 74 [(0, .ref (α 6)), (1, .int x1), (2, .int x2), (3, .int x3), (4, .int x4)] [] (f_X2_signers_74 k_5 x1 x2 x3 x4 σ) := by
  unfold f_X2_signers_74
  refine rx_iinc C (k0 := 4) (v := x4 + (1 : Int32)) [(4, .int (x4 + (1 : Int32))), (0, .ref (α 6)), (1, .int x1), (2, .int x2), (3, .int x3)] dX2_signers_74 rfl (congrArg _ ic_1) (by decide) rfl ?_
  refine rx_goto C (tgt := 5) dX2_signers_77 (by decide) ?_
  exact RX.loc (hk_5 x1 x2 x3 (x4 + (1 : Int32)) σ) [1, 2, 3, 4, 0] rfl
set_option maxRecDepth 100000 in
set_option maxHeartbeats 4000000 in
theorem w_X2_signers_5 {α : Nat → Nat} {D : va_G} {cA : Nat → ClassId} {z : Cz} (C : CX shX α D cA z RX2 cX2_signers 5 (some .int) 2 44) : ∀ (n : Nat) (x1 : Int32) (x2 : Int32) (x3 : Int32) (x4 : Int32) (σ : St), RX emI shX α D cA z 5 σ 5 [(0, .ref (α 6)), (1, .int x1), (2, .int x2), (3, .int x3), (4, .int x4)] [] (f_X2_signers_5 n x1 x2 x3 x4 σ) := by
  intro n
  induction n with
  | zero => intros; exact rx_none
  | succ n hk_5 =>
    intro x1 x2 x3 x4 σ
    rw [f_X2_signers_5.eq_2]
    refine rx_iload C 4 dX2_signers_5 rfl ?_
    refine rx_aload_n C 0 dX2_signers_7 rfl rfl ?_
    refine rx_getC C (k := 10) sx_6 fc_X2 (by decide) 13 rfl lk_X2_49 dX2_signers_8 ?_
    refine rx_getI C (k := 4) sx_13 fc_X7 (by decide) rfl lk_X2_115 dX2_signers_11 ?_
    refine rx_icmp_ge C (tgt := 80) dX2_signers_14 (by decide) (fun _ => ?_) (fun _ => ?_)
    · refine rx_iconst C dX2_signers_80 ic_0 ?_
      refine rx_istore C [(4, .int (0 : Int32)), (0, .ref (α 6)), (1, .int x1), (2, .int x2), (3, .int x3)] dX2_signers_81 (by decide) rfl ?_
      exact RX.loc (w_X2_signers_83 C FU x1 x2 x3 (0 : Int32) σ) [1, 2, 3, 4, 0] rfl
    · refine rx_aload_n C 0 dX2_signers_17 rfl rfl ?_
      refine rx_getC C (k := 10) sx_6 fc_X2 (by decide) 13 rfl lk_X2_49 dX2_signers_18 ?_
      refine rx_iload C 4 dX2_signers_21 rfl ?_
      refine rx_iconst C dX2_signers_23 ic_1 ?_
      refine rx_callVi C [.int x4, .int (1 : Int32)] [] (m_X7_get z.l C.inj 13 rn_13 x4 (1 : Int32) σ) mv_X7_get lk_X2_116 sx_13 rfl rfl rfl (Nat.le_of_ble_eq_true rfl) ⟨Nat.le_of_ble_eq_true rfl, Nat.le_of_ble_eq_true rfl⟩ dX2_signers_24 (fun q12 => ?_)
      refine rx_iload_n C 1 dX2_signers_27 rfl rfl ?_
      refine rx_icmp_ne C (tgt := 74) dX2_signers_28 (by decide) (fun _ => ?_) (fun _ => ?_)
      · refine rx_aload_n C 0 dX2_signers_31 rfl rfl ?_
        refine rx_getC C (k := 10) sx_6 fc_X2 (by decide) 13 rfl lk_X2_49 dX2_signers_32 ?_
        refine rx_iload C 4 dX2_signers_35 rfl ?_
        refine rx_iconst C dX2_signers_37 ic_2 ?_
        refine rx_callVi C [.int x4, .int (2 : Int32)] [] (m_X7_get z.l C.inj 13 rn_13 x4 (2 : Int32) q12.2) mv_X7_get lk_X2_116 sx_13 rfl rfl rfl (Nat.le_of_ble_eq_true rfl) ⟨Nat.le_of_ble_eq_true rfl, Nat.le_of_ble_eq_true rfl⟩ dX2_signers_38 (fun q13 => ?_)
        refine rx_iload_n C 2 dX2_signers_41 rfl rfl ?_
        refine rx_icmp_gt C (tgt := 74) dX2_signers_42 (by decide) (fun _ => ?_) (fun _ => ?_)
        · exact RX.loc (w_X2_signers_74 C (f_X2_signers_5 n) hk_5 x1 x2 x3 x4 q13.2) [0, 1, 2, 3, 4] rfl
        · refine rx_iload_n C 2 dX2_signers_45 rfl rfl ?_
          refine rx_aload_n C 0 dX2_signers_46 rfl rfl ?_
          refine rx_getC C (k := 10) sx_6 fc_X2 (by decide) 13 rfl lk_X2_49 dX2_signers_47 ?_
          refine rx_iload C 4 dX2_signers_50 rfl ?_
          refine rx_iconst C dX2_signers_52 ic_3 ?_
          refine rx_callVi C [.int x4, .int (3 : Int32)] [.int x2] (m_X7_get z.l C.inj 13 rn_13 x4 (3 : Int32) q13.2) mv_X7_get lk_X2_116 sx_13 rfl rfl rfl (Nat.le_of_ble_eq_true rfl) ⟨Nat.le_of_ble_eq_true rfl, Nat.le_of_ble_eq_true rfl⟩ dX2_signers_53 (fun q14 => ?_)
          refine rx_icmp_gt C (tgt := 74) dX2_signers_56 (by decide) (fun _ => ?_) (fun _ => ?_)
          · exact RX.loc (w_X2_signers_74 C (f_X2_signers_5 n) hk_5 x1 x2 x3 x4 q14.2) [0, 1, 2, 3, 4] rfl
          · refine rx_iload_n C 3 dX2_signers_59 rfl rfl ?_
            refine rx_iconst C dX2_signers_60 ic_1 ?_
            refine rx_aload_n C 0 dX2_signers_61 rfl rfl ?_
            refine rx_getC C (k := 10) sx_6 fc_X2 (by decide) 13 rfl lk_X2_49 dX2_signers_62 ?_
            refine rx_iload C 4 dX2_signers_65 rfl ?_
            refine rx_iconst C dX2_signers_67 ic_0 ?_
            refine rx_callVi C [.int x4, .int (0 : Int32)] [.int (1 : Int32), .int x3] (m_X7_get z.l C.inj 13 rn_13 x4 (0 : Int32) q14.2) mv_X7_get lk_X2_116 sx_13 rfl rfl rfl (Nat.le_of_ble_eq_true rfl) ⟨Nat.le_of_ble_eq_true rfl, Nat.le_of_ble_eq_true rfl⟩ dX2_signers_68 (fun q15 => ?_)
            refine rx_ishl C dX2_signers_71 ?_
            refine rx_ior C dX2_signers_72 ?_
            refine rx_lti (fun w16 => ?_)
            refine rx_istore_n C [(3, .int w16), (0, .ref (α 6)), (1, .int x1), (2, .int x2), (4, .int x4)] dX2_signers_73 rfl (by decide) rfl ?_
            exact RX.loc (w_X2_signers_74 C (f_X2_signers_5 n) hk_5 x1 x2 w16 x4 q15.2) [1, 2, 3, 0, 4] rfl
      · exact RX.loc (w_X2_signers_74 C (f_X2_signers_5 n) hk_5 x1 x2 x3 x4 q12.2) [0, 1, 2, 3, 4] rfl
set_option maxRecDepth 100000 in
set_option maxHeartbeats 4000000 in
theorem w_X2_signers_e {α : Nat → Nat} {D : va_G} {cA : Nat → ClassId} {z : Cz} (C : CX shX α D cA z RX2 cX2_signers 5 (some .int) 2 44) (x1 : Int32) (x2 : Int32) (σ : St) : RX emI shX α D cA z 5 σ 0 [(0, .ref (α 6)), (1, .int x1), (2, .int x2)] [] (f_X2_signers x1 x2 σ) := by
  unfold f_X2_signers
  refine rx_iconst C dX2_signers_0 ic_0 ?_
  refine rx_istore_n C [(3, .int (0 : Int32)), (0, .ref (α 6)), (1, .int x1), (2, .int x2)] dX2_signers_1 rfl (by decide) rfl ?_
  refine rx_iconst C dX2_signers_2 ic_0 ?_
  refine rx_istore C [(4, .int (0 : Int32)), (3, .int (0 : Int32)), (0, .ref (α 6)), (1, .int x1), (2, .int x2)] dX2_signers_3 (by decide) rfl ?_
  exact RX.loc (w_X2_signers_5 C FU x1 x2 (0 : Int32) (0 : Int32) σ) [2, 3, 4, 1, 0] rfl
theorem m_X2_signers (l : Launch) {α : Nat → Nat} {D : va_G} {cA : Nat → ClassId} (hin : inj shX.length α) (x1 : Int32) (x2 : Int32) (σ : St) : CT shX l yX2_signers cX2_signers 5 (some .int) 2 44 emI α D cA [.ref (α 6), .int x1, .int x2] σ (f_X2_signers x1 x2 σ) := ct_of rfl (Nat.le_of_ble_eq_true rfl) hin (fun z _ C => w_X2_signers_e C x1 x2 σ)
set_option maxRecDepth 100000 in
set_option maxHeartbeats 4000000 in
theorem w_X2_looseLetters_4 {α : Nat → Nat} {D : va_G} {cA : Nat → ClassId} {z : Cz} (C : CX shX α D cA z RX2 cX2_looseLetters 4 (some .int) 1 22) : ∀ (n : Nat) (x1 : Int32) (x2 : Int32) (x3 : Int32) (σ : St), RX emI shX α D cA z 4 σ 4 [(0, .ref (α 6)), (1, .int x1), (2, .int x2), (3, .int x3)] [] (f_X2_looseLetters_4 n x1 x2 x3 σ) := by
  intro n
  induction n with
  | zero => intros; exact rx_none
  | succ n hk_4 =>
    intro x1 x2 x3 σ
    rw [f_X2_looseLetters_4.eq_2]
    refine rx_iload_n C 3 dX2_looseLetters_4 rfl rfl ?_
    refine rx_bipush C dX2_looseLetters_5 bp_26 ?_
    refine rx_icmp_ge C (tgt := 25) dX2_looseLetters_7 (by decide) (fun _ => ?_) (fun _ => ?_)
    · refine rx_iload_n C 2 dX2_looseLetters_25 rfl rfl ?_
      exact rx_iret C dX2_looseLetters_26
    · refine rx_iload_n C 2 dX2_looseLetters_10 rfl rfl ?_
      refine rx_aload_n C 0 dX2_looseLetters_11 rfl rfl ?_
      refine rx_iload_n C 1 dX2_looseLetters_12 rfl rfl ?_
      refine rx_iload_n C 3 dX2_looseLetters_13 rfl rfl ?_
      refine rx_callVi C [.int x1, .int x3] [.int x2] (m_X2_count z.l C.inj x1 x3 σ) mv_X2_count lk_X2_134 sx_6 rfl rfl rfl (Nat.le_of_ble_eq_true rfl) ⟨Nat.le_of_ble_eq_true rfl, Nat.le_of_ble_eq_true rfl⟩ dX2_looseLetters_14 (fun q3 => ?_)
      refine rx_iadd C dX2_looseLetters_17 ?_
      refine rx_lti (fun w4 => ?_)
      refine rx_istore_n C [(2, .int w4), (0, .ref (α 6)), (1, .int x1), (3, .int x3)] dX2_looseLetters_18 rfl (by decide) rfl ?_
      refine rx_iinc C (k0 := 3) (v := x3 + (1 : Int32)) [(3, .int (x3 + (1 : Int32))), (2, .int w4), (0, .ref (α 6)), (1, .int x1)] dX2_looseLetters_19 rfl (congrArg _ ic_1) (by decide) rfl ?_
      refine rx_goto C (tgt := 4) dX2_looseLetters_22 (by decide) ?_
      exact RX.loc (hk_4 x1 w4 (x3 + (1 : Int32)) q3.2) [2, 3, 1, 0] rfl
set_option maxRecDepth 100000 in
set_option maxHeartbeats 4000000 in
theorem w_X2_looseLetters_e {α : Nat → Nat} {D : va_G} {cA : Nat → ClassId} {z : Cz} (C : CX shX α D cA z RX2 cX2_looseLetters 4 (some .int) 1 22) (x1 : Int32) (σ : St) : RX emI shX α D cA z 4 σ 0 [(0, .ref (α 6)), (1, .int x1)] [] (f_X2_looseLetters x1 σ) := by
  unfold f_X2_looseLetters
  refine rx_iconst C dX2_looseLetters_0 ic_0 ?_
  refine rx_istore_n C [(2, .int (0 : Int32)), (0, .ref (α 6)), (1, .int x1)] dX2_looseLetters_1 rfl (by decide) rfl ?_
  refine rx_iconst C dX2_looseLetters_2 ic_0 ?_
  refine rx_istore_n C [(3, .int (0 : Int32)), (2, .int (0 : Int32)), (0, .ref (α 6)), (1, .int x1)] dX2_looseLetters_3 rfl (by decide) rfl ?_
  exact RX.loc (w_X2_looseLetters_4 C FU x1 (0 : Int32) (0 : Int32) σ) [2, 3, 1, 0] rfl
theorem m_X2_looseLetters (l : Launch) {α : Nat → Nat} {D : va_G} {cA : Nat → ClassId} (hin : inj shX.length α) (x1 : Int32) (σ : St) : CT shX l yX2_looseLetters cX2_looseLetters 4 (some .int) 1 22 emI α D cA [.ref (α 6), .int x1] σ (f_X2_looseLetters x1 σ) := ct_of rfl (Nat.le_of_ble_eq_true rfl) hin (fun z _ C => w_X2_looseLetters_e C x1 σ)
set_option maxRecDepth 100000 in
set_option maxHeartbeats 4000000 in
theorem w_X2_coatOunces_4 {α : Nat → Nat} {D : va_G} {cA : Nat → ClassId} {z : Cz} (C : CX shX α D cA z RX2 cX2_coatOunces 3 (some .int) 3 66) : ∀ (n : Nat) (x1 : Int32) (x2 : Int32) (σ : St), RX emI shX α D cA z 3 σ 4 [(0, .ref (α 6)), (1, .int x1), (2, .int x2)] [] (f_X2_coatOunces_4 n x1 x2 σ) := by
  intro n
  induction n with
  | zero => intros; exact rx_none
  | succ n hk_4 =>
    intro x1 x2 σ
    rw [f_X2_coatOunces_4.eq_2]
    refine rx_iload_n C 2 dX2_coatOunces_4 rfl rfl ?_
    refine rx_aload_n C 0 dX2_coatOunces_5 rfl rfl ?_
    refine rx_getR C (k := 0) sx_6 fc_X2 (by decide) rfl lk_X2_9 dX2_coatOunces_6 ?_
    refine rx_ltr (fun g4 => ?_)
    refine rx_if (fun hg4 => ?_) (fun _ => rx_none)
    refine rx_getC C (k := 0) (ld_sh (landB_is hg4)) fc_X4 (by decide) (g4 + 1) rfl lk_X2_87 dX2_coatOunces_9 ?_
    refine rx_getI C (k := 4) (ro_sh (ld_1 (landB_is hg4))) fc_X8 (by decide) rfl lk_X2_103 dX2_coatOunces_12 ?_
    refine rx_icmp_ge C (tgt := 32) dX2_coatOunces_15 (by decide) (fun _ => ?_) (fun _ => ?_)
    · refine rx_iload_n C 1 dX2_coatOunces_32 rfl rfl ?_
      exact rx_iret C dX2_coatOunces_33
    · refine rx_iload_n C 1 dX2_coatOunces_18 rfl rfl ?_
      refine rx_aload_n C 0 dX2_coatOunces_19 rfl rfl ?_
      refine rx_iload_n C 2 dX2_coatOunces_20 rfl rfl ?_
      refine rx_callVi C [.int x2] [.int x1] (m_X2_loadOf z.l C.inj x2 σ) mv_X2_loadOf lk_X2_149 sx_6 rfl rfl rfl (Nat.le_of_ble_eq_true rfl) ⟨Nat.le_of_ble_eq_true rfl, Nat.le_of_ble_eq_true rfl⟩ dX2_coatOunces_21 (fun q5 => ?_)
      refine rx_iadd C dX2_coatOunces_24 ?_
      refine rx_lti (fun w6 => ?_)
      refine rx_istore_n C [(1, .int w6), (0, .ref (α 6)), (2, .int x2)] dX2_coatOunces_25 rfl (by decide) rfl ?_
      refine rx_iinc C (k0 := 2) (v := x2 + (1 : Int32)) [(2, .int (x2 + (1 : Int32))), (1, .int w6), (0, .ref (α 6))] dX2_coatOunces_26 rfl (congrArg _ ic_1) (by decide) rfl ?_
      refine rx_goto C (tgt := 4) dX2_coatOunces_29 (by decide) ?_
      exact RX.loc (hk_4 w6 (x2 + (1 : Int32)) q5.2) [2, 1, 0] rfl
set_option maxRecDepth 100000 in
set_option maxHeartbeats 4000000 in
theorem w_X2_coatOunces_e {α : Nat → Nat} {D : va_G} {cA : Nat → ClassId} {z : Cz} (C : CX shX α D cA z RX2 cX2_coatOunces 3 (some .int) 3 66) (σ : St) : RX emI shX α D cA z 3 σ 0 [(0, .ref (α 6))] [] (f_X2_coatOunces σ) := by
  unfold f_X2_coatOunces
  refine rx_iconst C dX2_coatOunces_0 ic_0 ?_
  refine rx_istore_n C [(1, .int (0 : Int32)), (0, .ref (α 6))] dX2_coatOunces_1 rfl (by decide) rfl ?_
  refine rx_iconst C dX2_coatOunces_2 ic_0 ?_
  refine rx_istore_n C [(2, .int (0 : Int32)), (1, .int (0 : Int32)), (0, .ref (α 6))] dX2_coatOunces_3 rfl (by decide) rfl ?_
  exact RX.loc (w_X2_coatOunces_4 C FU (0 : Int32) (0 : Int32) σ) [2, 1, 0] rfl
theorem m_X2_coatOunces (l : Launch) {α : Nat → Nat} {D : va_G} {cA : Nat → ClassId} (hin : inj shX.length α) (σ : St) : CT shX l yX2_coatOunces cX2_coatOunces 3 (some .int) 3 66 emI α D cA [.ref (α 6)] σ (f_X2_coatOunces σ) := ct_of rfl (Nat.le_of_ble_eq_true rfl) hin (fun z _ C => w_X2_coatOunces_e C σ)
set_option maxRecDepth 100000 in
set_option maxHeartbeats 4000000 in
theorem w_X2_bulletOunces_33 {α : Nat → Nat} {D : va_G} {cA : Nat → ClassId} {z : Cz} (C : CX shX α D cA z RX2 cX2_bulletOunces 3 (some .int) 0 0) (x1 : Int32) (σ : St) : RX emI shX α D cA z 3 σ 33 [(1, .int x1)] [] (f_X2_bulletOunces_33 x1 σ) := by
  unfold f_X2_bulletOunces_33
  refine rx_iload_n C 0 dX2_bulletOunces_33 rfl rfl ?_
  exact rx_iret C dX2_bulletOunces_34
set_option maxRecDepth 100000 in
set_option maxHeartbeats 4000000 in
theorem w_X2_bulletOunces_4 {α : Nat → Nat} {D : va_G} {cA : Nat → ClassId} {z : Cz} (C : CX shX α D cA z RX2 cX2_bulletOunces 3 (some .int) 0 0) : ∀ (n : Nat) (x1 : Int32) (x2 : Int32) (σ : St), RX emI shX α D cA z 3 σ 4 [(0, .ref (α 6)), (1, .int x1), (2, .int x2)] [] (f_X2_bulletOunces_4 n x1 x2 σ) := by
  intro n
  induction n with
  | zero => intros; exact rx_none
  | succ n hk_4 =>
    intro x1 x2 σ
    rw [f_X2_bulletOunces_4.eq_2]
    refine rx_iload_n C 2 dX2_bulletOunces_4 rfl rfl ?_
    refine rx_aload_n C 0 dX2_bulletOunces_5 rfl rfl ?_
    refine rx_getI C (k := 3) sx_6 fc_X2 (by decide) rfl lk_X2_22 dX2_bulletOunces_6 ?_
    refine rx_icmp_ge C (tgt := 33) dX2_bulletOunces_9 (by decide) (fun _ => ?_) (fun _ => ?_)
    · exact RX.loc (w_X2_bulletOunces_33 C x1 σ) [1] rfl
    · refine rx_iload_n C 2 dX2_bulletOunces_12 rfl rfl ?_
      refine rx_bipush C dX2_bulletOunces_13 bp_30 ?_
      refine rx_icmp_ge C (tgt := 33) dX2_bulletOunces_15 (by decide) (fun _ => ?_) (fun _ => ?_)
      · exact RX.loc (w_X2_bulletOunces_33 C x1 σ) [1] rfl
      · refine rx_iload_n C 1 dX2_bulletOunces_18 rfl rfl ?_
        refine rx_aload_n C 0 dX2_bulletOunces_19 rfl rfl ?_
        refine rx_getC C (k := 6) sx_6 fc_X2 (by decide) 9 rfl lk_X2_32 dX2_bulletOunces_20 ?_
        refine rx_iload_n C 2 dX2_bulletOunces_23 rfl rfl ?_
        refine rx_iald C (n := 30) sx_9 dX2_bulletOunces_24 (fun _ => ?_)
        refine rx_iadd C dX2_bulletOunces_25 ?_
        refine rx_lti (fun w2 => ?_)
        refine rx_istore_n C [(1, .int w2), (0, .ref (α 6)), (2, .int x2)] dX2_bulletOunces_26 rfl (by decide) rfl ?_
        refine rx_iinc C (k0 := 2) (v := x2 + (1 : Int32)) [(2, .int (x2 + (1 : Int32))), (1, .int w2), (0, .ref (α 6))] dX2_bulletOunces_27 rfl (congrArg _ ic_1) (by decide) rfl ?_
        refine rx_goto C (tgt := 4) dX2_bulletOunces_30 (by decide) ?_
        exact RX.loc (hk_4 w2 (x2 + (1 : Int32)) σ) [2, 1, 0] rfl
set_option maxRecDepth 100000 in
set_option maxHeartbeats 4000000 in
theorem w_X2_bulletOunces_e {α : Nat → Nat} {D : va_G} {cA : Nat → ClassId} {z : Cz} (C : CX shX α D cA z RX2 cX2_bulletOunces 3 (some .int) 0 0) (σ : St) : RX emI shX α D cA z 3 σ 0 [(0, .ref (α 6))] [] (f_X2_bulletOunces σ) := by
  unfold f_X2_bulletOunces
  refine rx_iconst C dX2_bulletOunces_0 ic_0 ?_
  refine rx_istore_n C [(1, .int (0 : Int32)), (0, .ref (α 6))] dX2_bulletOunces_1 rfl (by decide) rfl ?_
  refine rx_iconst C dX2_bulletOunces_2 ic_0 ?_
  refine rx_istore_n C [(2, .int (0 : Int32)), (1, .int (0 : Int32)), (0, .ref (α 6))] dX2_bulletOunces_3 rfl (by decide) rfl ?_
  exact RX.loc (w_X2_bulletOunces_4 C FU (0 : Int32) (0 : Int32) σ) [2, 1, 0] rfl
theorem m_X2_bulletOunces (l : Launch) {α : Nat → Nat} {D : va_G} {cA : Nat → ClassId} (hin : inj shX.length α) (σ : St) : CT shX l yX2_bulletOunces cX2_bulletOunces 3 (some .int) 0 0 emI α D cA [.ref (α 6)] σ (f_X2_bulletOunces σ) := ct_of rfl (Nat.le_of_ble_eq_true rfl) hin (fun z _ C => w_X2_bulletOunces_e C σ)
set_option maxRecDepth 100000 in
set_option maxHeartbeats 4000000 in
theorem w_X2_countLetters_117 {α : Nat → Nat} {D : va_G} {cA : Nat → ClassId} {z : Cz} (C : CX shX α D cA z RX2 cX2_countLetters 8 none 2 43) (r2 : Nat) (hr2 : arI r2) (k_31 : Int32 → Int32 → St → Option (Unit × St)) (hk_31 : ∀ (x1 : Int32) (x3 : Int32) (σ : St), RX emV shX α D cA z 8 σ 31 [(0, .ref (α 6)), (1, .int x1), (2, .ref (α r2)), (3, .int x3)] [] (k_31 x1 x3 σ)) (k_81 : Int32 → Int32 → Int32 → Int32 → Int32 → St → Option (Unit × St)) (hk_81 : ∀ (x1 : Int32) (x3 : Int32) (x4 : Int32) (x5 : Int32) (x6 : Int32) (σ : St), RX emV shX α D cA z 8 σ 81 [(0, .ref (α 6)), (1, .int x1), (2, .ref (α r2)), (3, .int x3), (4, .int x4), (5, .int x5), (6, .int x6)] [] (k_81 x1 x3 x4 x5 x6 σ)) (x1 : Int32) (x3 : Int32) (x4 : Int32) (x5 : Int32) (x6 : Int32) (σ : St) : RX emV shX α D cA z 8 σ 117 [(0, .ref (α 6)), (1, .int x1), (2, .ref (α r2)), (3, .int x3), (4, .int x4), (5, .int x5), (6, .int x6)] [] (f_X2_countLetters_117 r2 k_31 k_81 x1 x3 x4 x5 x6 σ) := by
  unfold f_X2_countLetters_117
  refine rx_iinc C (k0 := 6) (v := x6 + (1 : Int32)) [(6, .int (x6 + (1 : Int32))), (0, .ref (α 6)), (1, .int x1), (2, .ref (α r2)), (3, .int x3), (4, .int x4), (5, .int x5)] dX2_countLetters_117 rfl (congrArg _ ic_1) (by decide) rfl ?_
  refine rx_goto C (tgt := 81) dX2_countLetters_120 (by decide) ?_
  exact RX.loc (hk_81 x1 x3 x4 x5 (x6 + (1 : Int32)) σ) [1, 2, 3, 4, 5, 6, 0] rfl
set_option maxRecDepth 100000 in
set_option maxHeartbeats 4000000 in
theorem w_X2_countLetters_81 {α : Nat → Nat} {D : va_G} {cA : Nat → ClassId} {z : Cz} (C : CX shX α D cA z RX2 cX2_countLetters 8 none 2 43) (r2 : Nat) (hr2 : arI r2) (k_31 : Int32 → Int32 → St → Option (Unit × St)) (hk_31 : ∀ (x1 : Int32) (x3 : Int32) (σ : St), RX emV shX α D cA z 8 σ 31 [(0, .ref (α 6)), (1, .int x1), (2, .ref (α r2)), (3, .int x3)] [] (k_31 x1 x3 σ)) : ∀ (n : Nat) (x1 : Int32) (x3 : Int32) (x4 : Int32) (x5 : Int32) (x6 : Int32) (σ : St), RX emV shX α D cA z 8 σ 81 [(0, .ref (α 6)), (1, .int x1), (2, .ref (α r2)), (3, .int x3), (4, .int x4), (5, .int x5), (6, .int x6)] [] (f_X2_countLetters_81 r2 k_31 n x1 x3 x4 x5 x6 σ) := by
  intro n
  induction n with
  | zero => intros; exact rx_none
  | succ n hk_81 =>
    intro x1 x3 x4 x5 x6 σ
    rw [f_X2_countLetters_81.eq_2]
    refine rx_iload C 6 dX2_countLetters_81 rfl ?_
    refine rx_iload C 5 dX2_countLetters_83 rfl ?_
    refine rx_icmp_ge C (tgt := 123) dX2_countLetters_85 (by decide) (fun _ => ?_) (fun _ => ?_)
    · refine rx_iinc C (k0 := 3) (v := x3 + (1 : Int32)) [(3, .int (x3 + (1 : Int32))), (0, .ref (α 6)), (1, .int x1), (2, .ref (α r2)), (4, .int x4), (5, .int x5), (6, .int x6)] dX2_countLetters_123 rfl (congrArg _ ic_1) (by decide) rfl ?_
      refine rx_goto C (tgt := 31) dX2_countLetters_126 (by decide) ?_
      exact RX.loc (hk_31 x1 (x3 + (1 : Int32)) σ) [1, 2, 3, 0] rfl
    · refine rx_iload C 4 dX2_countLetters_88 rfl ?_
      refine rx_iload C 6 dX2_countLetters_90 rfl ?_
      refine rx_callSi C [.int x4, .int x6] [] (m_X8_letterOf z.l C.inj x4 x6 σ) ms_X8_letterOf lk_X2_127 rfl rfl (Nat.le_of_ble_eq_true rfl) ⟨Nat.le_of_ble_eq_true rfl, Nat.le_of_ble_eq_true rfl⟩ dX2_countLetters_92 (fun q13 => ?_)
      refine rx_istore C [(7, .int q13.1), (0, .ref (α 6)), (1, .int x1), (2, .ref (α r2)), (3, .int x3), (4, .int x4), (5, .int x5), (6, .int x6)] dX2_countLetters_95 (by decide) rfl ?_
      refine rx_iload C 0 dX2_countLetters_97 rfl ?_
      refine rx_if_lt C (tgt := 117) dX2_countLetters_99 (by decide) (fun _ => ?_) (fun _ => ?_)
      · exact RX.loc (w_X2_countLetters_117 C r2 hr2 k_31 hk_31 (f_X2_countLetters_81 r2 k_31 n) hk_81 x1 x3 x4 x5 x6 q13.2) [1, 2, 3, 4, 5, 6, 7] rfl
      · refine rx_iload C 0 dX2_countLetters_102 rfl ?_
        refine rx_aload_n C 3 dX2_countLetters_104 rfl rfl ?_
        refine rx_alen C (n := (lnX r2)) hr2 rfl dX2_countLetters_105 ?_
        refine rx_icmp_ge C (tgt := 117) dX2_countLetters_106 (by decide) (fun _ => ?_) (fun _ => ?_)
        · exact RX.loc (w_X2_countLetters_117 C r2 hr2 k_31 hk_31 (f_X2_countLetters_81 r2 k_31 n) hk_81 x1 x3 x4 x5 x6 q13.2) [1, 2, 3, 4, 5, 6, 7] rfl
        · refine rx_aload_n C 3 dX2_countLetters_109 rfl rfl ?_
          refine rx_iload C 0 dX2_countLetters_110 rfl ?_
          refine rx_dup2 C dX2_countLetters_112 rfl rfl ?_
          refine rx_iald C (n := (lnX r2)) hr2 dX2_countLetters_113 (fun _ => ?_)
          refine rx_iconst C dX2_countLetters_114 ic_1 ?_
          refine rx_iadd C dX2_countLetters_115 ?_
          refine rx_iast C (n := (lnX r2)) hr2 dX2_countLetters_116 (fun _ => ?_)
          refine rx_lts (fun σ14 => ?_)
          exact RX.loc (w_X2_countLetters_117 C r2 hr2 k_31 hk_31 (f_X2_countLetters_81 r2 k_31 n) hk_81 x1 x3 x4 x5 x6 σ14) [1, 2, 3, 4, 5, 6, 7] rfl
set_option maxRecDepth 100000 in
set_option maxHeartbeats 4000000 in
theorem w_X2_countLetters_69 {α : Nat → Nat} {D : va_G} {cA : Nat → ClassId} {z : Cz} (C : CX shX α D cA z RX2 cX2_countLetters 8 none 2 43) (r2 : Nat) (hr2 : arI r2) (k_31 : Int32 → Int32 → St → Option (Unit × St)) (hk_31 : ∀ (x1 : Int32) (x3 : Int32) (σ : St), RX emV shX α D cA z 8 σ 31 [(0, .ref (α 6)), (1, .int x1), (2, .ref (α r2)), (3, .int x3)] [] (k_31 x1 x3 σ)) (x1 : Int32) (x3 : Int32) (s0 : Int32) (σ : St) : RX emV shX α D cA z 8 σ 69 [(0, .ref (α 6)), (1, .int x1), (2, .ref (α r2)), (3, .int x3)] [.int s0] (f_X2_countLetters_69 r2 k_31 x1 x3 s0 σ) := by
  unfold f_X2_countLetters_69
  refine rx_istore C [(4, .int s0), (0, .ref (α 6)), (1, .int x1), (2, .ref (α r2)), (3, .int x3)] dX2_countLetters_69 (by decide) rfl ?_
  refine rx_iload C 0 dX2_countLetters_71 rfl ?_
  refine rx_callSi C [.int s0] [] (m_X8_lengthOf z.l C.inj s0 σ) ms_X8_lengthOf lk_X2_124 rfl rfl (Nat.le_of_ble_eq_true rfl) ⟨Nat.le_of_ble_eq_true rfl, Nat.le_of_ble_eq_true rfl⟩ dX2_countLetters_73 (fun q12 => ?_)
  refine rx_istore C [(5, .int q12.1), (4, .int s0), (0, .ref (α 6)), (1, .int x1), (2, .ref (α r2)), (3, .int x3)] dX2_countLetters_76 (by decide) rfl ?_
  refine rx_iconst C dX2_countLetters_78 ic_0 ?_
  refine rx_istore C [(6, .int (0 : Int32)), (5, .int q12.1), (4, .int s0), (0, .ref (α 6)), (1, .int x1), (2, .ref (α r2)), (3, .int x3)] dX2_countLetters_79 (by decide) rfl ?_
  exact RX.loc (w_X2_countLetters_81 C r2 hr2 k_31 hk_31 FU x1 x3 s0 q12.1 (0 : Int32) q12.2) [3, 4, 5, 6, 2, 1, 0] rfl
set_option maxRecDepth 100000 in
set_option maxHeartbeats 4000000 in
theorem w_X2_countLetters_31 {α : Nat → Nat} {D : va_G} {cA : Nat → ClassId} {z : Cz} (C : CX shX α D cA z RX2 cX2_countLetters 8 none 2 43) (r2 : Nat) (hr2 : arI r2) : ∀ (n : Nat) (x1 : Int32) (x3 : Int32) (σ : St), RX emV shX α D cA z 8 σ 31 [(0, .ref (α 6)), (1, .int x1), (2, .ref (α r2)), (3, .int x3)] [] (f_X2_countLetters_31 r2 n x1 x3 σ) := by
  intro n
  induction n with
  | zero => intros; exact rx_none
  | succ n hk_31 =>
    intro x1 x3 σ
    rw [f_X2_countLetters_31.eq_2]
    refine rx_iload_n C 3 dX2_countLetters_31 rfl rfl ?_
    refine rx_aload_n C 0 dX2_countLetters_32 rfl rfl ?_
    refine rx_getR C (k := 0) sx_6 fc_X2 (by decide) rfl lk_X2_9 dX2_countLetters_33 ?_
    refine rx_ltr (fun g10 => ?_)
    refine rx_if (fun hg10 => ?_) (fun _ => rx_none)
    refine rx_getC C (k := 1) (ld_sh (landB_is hg10)) fc_X4 (by decide) (g10 + 4) rfl lk_X2_97 dX2_countLetters_36 ?_
    refine rx_getI C (k := 4) (ro_sh (ld_4 (landB_is hg10))) fc_X8 (by decide) rfl lk_X2_103 dX2_countLetters_39 ?_
    refine rx_icmp_ge C (tgt := 129) dX2_countLetters_42 (by decide) (fun _ => ?_) (fun _ => ?_)
    · exact rx_vret C dX2_countLetters_129
    · refine rx_aload_n C 0 dX2_countLetters_45 rfl rfl ?_
      refine rx_iload_n C 1 dX2_countLetters_46 rfl rfl ?_
      refine rx_iload_n C 3 dX2_countLetters_47 rfl rfl ?_
      refine rx_callVi C [.int x1, .int x3] [] (m_X2_bears z.l C.inj x1 x3 σ) mv_X2_bears lk_X2_99 sx_6 rfl rfl rfl (Nat.le_of_ble_eq_true rfl) ⟨Nat.le_of_ble_eq_true rfl, Nat.le_of_ble_eq_true rfl⟩ dX2_countLetters_48 (fun q11 => ?_)
      refine rx_if_eq C (tgt := 68) dX2_countLetters_51 (by decide) (fun _ => ?_) (fun _ => ?_)
      · refine rx_iconst C dX2_countLetters_68 ic_0 ?_
        exact RX.loc (w_X2_countLetters_69 C r2 hr2 (f_X2_countLetters_31 r2 n) hk_31 x1 x3 (0 : Int32) q11.2) [0, 1, 2, 3] rfl
      · refine rx_aload_n C 0 dX2_countLetters_54 rfl rfl ?_
        refine rx_getR C (k := 0) sx_6 fc_X2 (by decide) rfl lk_X2_9 dX2_countLetters_55 ?_
        refine rx_ltr (fun g15 => ?_)
        refine rx_if (fun hg15 => ?_) (fun _ => rx_none)
        refine rx_getC C (k := 1) (ld_sh (landB_is hg15)) fc_X4 (by decide) (g15 + 4) rfl lk_X2_97 dX2_countLetters_58 ?_
        refine rx_iload_n C 3 dX2_countLetters_61 rfl rfl ?_
        refine rx_callVi C [.int x3] [] (m_X8_name z.l C.inj (g15 + 4) (ld_4 (landB_is hg15)) x3 q11.2) mv_X8_name lk_X2_120 (ro_sh (ld_4 (landB_is hg15))) rfl rfl rfl (Nat.le_of_ble_eq_true rfl) ⟨Nat.le_of_ble_eq_true rfl, Nat.le_of_ble_eq_true rfl⟩ dX2_countLetters_62 (fun q16 => ?_)
        refine rx_goto C (tgt := 69) dX2_countLetters_65 (by decide) ?_
        exact RX.loc (w_X2_countLetters_69 C r2 hr2 (f_X2_countLetters_31 r2 n) hk_31 x1 x3 q16.1 q16.2) [0, 1, 2, 3] rfl
set_option maxRecDepth 100000 in
set_option maxHeartbeats 4000000 in
theorem w_X2_countLetters_29 {α : Nat → Nat} {D : va_G} {cA : Nat → ClassId} {z : Cz} (C : CX shX α D cA z RX2 cX2_countLetters 8 none 2 43) (r2 : Nat) (hr2 : arI r2) (x1 : Int32) (σ : St) : RX emV shX α D cA z 8 σ 29 [(0, .ref (α 6)), (1, .int x1), (2, .ref (α r2))] [] (f_X2_countLetters_29 r2 x1 σ) := by
  unfold f_X2_countLetters_29
  refine rx_iconst C dX2_countLetters_29 ic_0 ?_
  refine rx_istore_n C [(3, .int (0 : Int32)), (0, .ref (α 6)), (1, .int x1), (2, .ref (α r2))] dX2_countLetters_30 rfl (by decide) rfl ?_
  exact RX.loc (w_X2_countLetters_31 C r2 hr2 FU x1 (0 : Int32) σ) [1, 2, 3, 0] rfl
set_option maxRecDepth 100000 in
set_option maxHeartbeats 4000000 in
theorem w_X2_countLetters_2 {α : Nat → Nat} {D : va_G} {cA : Nat → ClassId} {z : Cz} (C : CX shX α D cA z RX2 cX2_countLetters 8 none 2 43) (r2 : Nat) (hr2 : arI r2) : ∀ (n : Nat) (x1 : Int32) (x3 : Int32) (σ : St), RX emV shX α D cA z 8 σ 2 [(0, .ref (α 6)), (1, .int x1), (2, .ref (α r2)), (3, .int x3)] [] (f_X2_countLetters_2 r2 n x1 x3 σ) := by
  intro n
  induction n with
  | zero => intros; exact rx_none
  | succ n hk_2 =>
    intro x1 x3 σ
    rw [f_X2_countLetters_2.eq_2]
    refine rx_iload_n C 3 dX2_countLetters_2 rfl rfl ?_
    refine rx_bipush C dX2_countLetters_3 bp_26 ?_
    refine rx_icmp_ge C (tgt := 29) dX2_countLetters_5 (by decide) (fun _ => ?_) (fun _ => ?_)
    · exact RX.loc (w_X2_countLetters_29 C r2 hr2 x1 σ) [0, 1, 2] rfl
    · refine rx_iload_n C 3 dX2_countLetters_8 rfl rfl ?_
      refine rx_aload_n C 2 dX2_countLetters_9 rfl rfl ?_
      refine rx_alen C (n := (lnX r2)) hr2 rfl dX2_countLetters_10 ?_
      refine rx_icmp_ge C (tgt := 29) dX2_countLetters_11 (by decide) (fun _ => ?_) (fun _ => ?_)
      · exact RX.loc (w_X2_countLetters_29 C r2 hr2 x1 σ) [0, 1, 2] rfl
      · refine rx_aload_n C 2 dX2_countLetters_14 rfl rfl ?_
        refine rx_iload_n C 3 dX2_countLetters_15 rfl rfl ?_
        refine rx_aload_n C 0 dX2_countLetters_16 rfl rfl ?_
        refine rx_iload_n C 1 dX2_countLetters_17 rfl rfl ?_
        refine rx_iload_n C 3 dX2_countLetters_18 rfl rfl ?_
        refine rx_callVi C [.int x1, .int x3] [.int x3, .ref (α r2)] (m_X2_count z.l C.inj x1 x3 σ) mv_X2_count lk_X2_134 sx_6 rfl rfl rfl (Nat.le_of_ble_eq_true rfl) ⟨Nat.le_of_ble_eq_true rfl, Nat.le_of_ble_eq_true rfl⟩ dX2_countLetters_19 (fun q17 => ?_)
        refine rx_iast C (n := (lnX r2)) hr2 dX2_countLetters_22 (fun _ => ?_)
        refine rx_lts (fun σ18 => ?_)
        refine rx_iinc C (k0 := 3) (v := x3 + (1 : Int32)) [(3, .int (x3 + (1 : Int32))), (0, .ref (α 6)), (1, .int x1), (2, .ref (α r2))] dX2_countLetters_23 rfl (congrArg _ ic_1) (by decide) rfl ?_
        refine rx_goto C (tgt := 2) dX2_countLetters_26 (by decide) ?_
        exact RX.loc (hk_2 x1 (x3 + (1 : Int32)) σ18) [1, 2, 3, 0] rfl
set_option maxRecDepth 100000 in
set_option maxHeartbeats 4000000 in
theorem w_X2_countLetters_e {α : Nat → Nat} {D : va_G} {cA : Nat → ClassId} {z : Cz} (C : CX shX α D cA z RX2 cX2_countLetters 8 none 2 43) (r2 : Nat) (hr2 : arI r2) (x1 : Int32) (σ : St) : RX emV shX α D cA z 8 σ 0 [(0, .ref (α 6)), (1, .int x1), (2, .ref (α r2))] [] (f_X2_countLetters r2 x1 σ) := by
  unfold f_X2_countLetters
  refine rx_iconst C dX2_countLetters_0 ic_0 ?_
  refine rx_istore_n C [(3, .int (0 : Int32)), (0, .ref (α 6)), (1, .int x1), (2, .ref (α r2))] dX2_countLetters_1 rfl (by decide) rfl ?_
  exact RX.loc (w_X2_countLetters_2 C r2 hr2 FU x1 (0 : Int32) σ) [1, 2, 3, 0] rfl
theorem m_X2_countLetters (l : Launch) {α : Nat → Nat} {D : va_G} {cA : Nat → ClassId} (hin : inj shX.length α) (r2 : Nat) (hr2 : arI r2) (x1 : Int32) (σ : St) : CT shX l yX2_countLetters cX2_countLetters 8 none 2 43 emV α D cA [.ref (α 6), .int x1, .ref (α r2)] σ (f_X2_countLetters r2 x1 σ) := ct_of rfl (Nat.le_of_ble_eq_true rfl) hin (fun z _ C => w_X2_countLetters_e C r2 hr2 x1 σ)
set_option maxRecDepth 100000 in
set_option maxHeartbeats 4000000 in
theorem w_X2_canLay_66 {α : Nat → Nat} {D : va_G} {cA : Nat → ClassId} {z : Cz} (C : CX shX α D cA z RX2 cX2_canLay 6 (some .boolean) 3 68) (σ : St) : RX emI shX α D cA z 6 σ 66 [] [] (f_X2_canLay_66 σ) := by
  unfold f_X2_canLay_66
  refine rx_iconst C dX2_canLay_66 ic_0 ?_
  exact rx_zretC C dX2_canLay_67 rfl
set_option maxRecDepth 100000 in
set_option maxHeartbeats 4000000 in
theorem w_X2_canLay_20 {α : Nat → Nat} {D : va_G} {cA : Nat → ClassId} {z : Cz} (C : CX shX α D cA z RX2 cX2_canLay 6 (some .boolean) 3 68) : ∀ (n : Nat) (x1 : Int32) (x2 : Int32) (x3 : Int32) (x4 : Int32) (σ : St), RX emI shX α D cA z 6 σ 20 [(0, .ref (α 6)), (1, .int x1), (2, .int x2), (3, .int x3), (4, .int x4)] [] (f_X2_canLay_20 n x1 x2 x3 x4 σ) := by
  intro n
  induction n with
  | zero => intros; exact rx_none
  | succ n hk_20 =>
    intro x1 x2 x3 x4 σ
    rw [f_X2_canLay_20.eq_2]
    refine rx_iload C 4 dX2_canLay_20 rfl ?_
    refine rx_iload_n C 3 dX2_canLay_22 rfl rfl ?_
    refine rx_icmp_ge C (tgt := 74) dX2_canLay_23 (by decide) (fun _ => ?_) (fun _ => ?_)
    · refine rx_iconst C dX2_canLay_74 ic_1 ?_
      exact rx_zretC C dX2_canLay_75 rfl
    · refine rx_iload_n C 2 dX2_canLay_26 rfl rfl ?_
      refine rx_iload C 4 dX2_canLay_27 rfl ?_
      refine rx_callSi C [.int x2, .int x4] [] (m_X8_letterOf z.l C.inj x2 x4 σ) ms_X8_letterOf lk_X2_127 rfl rfl (Nat.le_of_ble_eq_true rfl) ⟨Nat.le_of_ble_eq_true rfl, Nat.le_of_ble_eq_true rfl⟩ dX2_canLay_29 (fun q10 => ?_)
      refine rx_istore C [(5, .int q10.1), (0, .ref (α 6)), (1, .int x1), (2, .int x2), (3, .int x3), (4, .int x4)] dX2_canLay_32 (by decide) rfl ?_
      refine rx_iload C 0 dX2_canLay_34 rfl ?_
      refine rx_if_lt C (tgt := 66) dX2_canLay_36 (by decide) (fun _ => ?_) (fun _ => ?_)
      · exact RX.loc (w_X2_canLay_66 C q10.2) [] rfl
      · refine rx_iload C 0 dX2_canLay_39 rfl ?_
        refine rx_bipush C dX2_canLay_41 bp_26 ?_
        refine rx_icmp_ge C (tgt := 66) dX2_canLay_43 (by decide) (fun _ => ?_) (fun _ => ?_)
        · exact RX.loc (w_X2_canLay_66 C q10.2) [] rfl
        · refine rx_aload_n C 1 dX2_canLay_46 rfl rfl ?_
          refine rx_getR C (k := 0) sx_6 fc_X2 (by decide) rfl lk_X2_9 dX2_canLay_47 ?_
          refine rx_ltr (fun g11 => ?_)
          refine rx_if (fun hg11 => ?_) (fun _ => rx_none)
          refine rx_iload_n C 2 dX2_canLay_50 rfl rfl ?_
          refine rx_iload C 5 dX2_canLay_51 rfl ?_
          refine rx_callVi C [.int x1, .int x4] [] (m_X4_rankOf z.l C.inj g11 (landB_is hg11) x1 x4 q10.2) mv_X4_rankOf lk_X2_185 (ld_sh (landB_is hg11)) rfl rfl rfl (Nat.le_of_ble_eq_true rfl) ⟨Nat.le_of_ble_eq_true rfl, Nat.le_of_ble_eq_true rfl⟩ dX2_canLay_53 (fun q12 => ?_)
          refine rx_aload_n C 1 dX2_canLay_56 rfl rfl ?_
          refine rx_getC C (k := 8) sx_6 fc_X2 (by decide) 11 rfl lk_X2_38 dX2_canLay_57 ?_
          refine rx_iload C 0 dX2_canLay_60 rfl ?_
          refine rx_iald C (n := 26) sx_11 dX2_canLay_62 (fun _ => ?_)
          refine rx_icmp_le C (tgt := 68) dX2_canLay_63 (by decide) (fun _ => ?_) (fun _ => ?_)
          · refine rx_iinc C (k0 := 5) (v := x4 + (1 : Int32)) [(4, .int (x4 + (1 : Int32))), (5, .int q10.1), (0, .ref (α 6)), (1, .int x1), (2, .int x2), (3, .int x3)] dX2_canLay_68 rfl (congrArg _ ic_1) (by decide) rfl ?_
            refine rx_goto C (tgt := 20) dX2_canLay_71 (by decide) ?_
            exact RX.loc (hk_20 x1 x2 x3 (x4 + (1 : Int32)) q12.2) [2, 3, 4, 5, 0] rfl
          · exact RX.loc (w_X2_canLay_66 C q12.2) [] rfl
set_option maxRecDepth 100000 in
set_option maxHeartbeats 4000000 in
theorem w_X2_canLay_e {α : Nat → Nat} {D : va_G} {cA : Nat → ClassId} {z : Cz} (C : CX shX α D cA z RX2 cX2_canLay 6 (some .boolean) 3 68) (x1 : Int32) (σ : St) : RX emI shX α D cA z 6 σ 0 [(0, .ref (α 6)), (1, .int x1)] [] (f_X2_canLay x1 σ) := by
  unfold f_X2_canLay
  refine rx_aload_n C 0 dX2_canLay_0 rfl rfl ?_
  refine rx_getR C (k := 0) sx_6 fc_X2 (by decide) rfl lk_X2_9 dX2_canLay_1 ?_
  refine rx_ltr (fun g7 => ?_)
  refine rx_if (fun hg7 => ?_) (fun _ => rx_none)
  refine rx_getC C (k := 1) (ld_sh (landB_is hg7)) fc_X4 (by decide) (g7 + 4) rfl lk_X2_97 dX2_canLay_4 ?_
  refine rx_iload_n C 1 dX2_canLay_7 rfl rfl ?_
  refine rx_callVi C [.int x1] [] (m_X8_name z.l C.inj (g7 + 4) (ld_4 (landB_is hg7)) x1 σ) mv_X8_name lk_X2_120 (ro_sh (ld_4 (landB_is hg7))) rfl rfl rfl (Nat.le_of_ble_eq_true rfl) ⟨Nat.le_of_ble_eq_true rfl, Nat.le_of_ble_eq_true rfl⟩ dX2_canLay_8 (fun q8 => ?_)
  refine rx_istore_n C [(2, .int q8.1), (0, .ref (α 6)), (1, .int x1)] dX2_canLay_11 rfl (by decide) rfl ?_
  refine rx_iload_n C 0 dX2_canLay_12 rfl rfl ?_
  refine rx_callSi C [.int q8.1] [] (m_X8_lengthOf z.l C.inj q8.1 q8.2) ms_X8_lengthOf lk_X2_124 rfl rfl (Nat.le_of_ble_eq_true rfl) ⟨Nat.le_of_ble_eq_true rfl, Nat.le_of_ble_eq_true rfl⟩ dX2_canLay_13 (fun q9 => ?_)
  refine rx_istore_n C [(3, .int q9.1), (2, .int q8.1), (0, .ref (α 6)), (1, .int x1)] dX2_canLay_16 rfl (by decide) rfl ?_
  refine rx_iconst C dX2_canLay_17 ic_0 ?_
  refine rx_istore C [(4, .int (0 : Int32)), (3, .int q9.1), (2, .int q8.1), (0, .ref (α 6)), (1, .int x1)] dX2_canLay_18 (by decide) rfl ?_
  exact RX.loc (w_X2_canLay_20 C FU x1 q8.1 q9.1 (0 : Int32) q9.2) [3, 4, 2, 1, 0] rfl
theorem m_X2_canLay (l : Launch) {α : Nat → Nat} {D : va_G} {cA : Nat → ClassId} (hin : inj shX.length α) (x1 : Int32) (σ : St) : CT shX l yX2_canLay cX2_canLay 6 (some .boolean) 3 68 emI α D cA [.ref (α 6), .int x1] σ (f_X2_canLay x1 σ) := ct_of rfl (Nat.le_of_ble_eq_true rfl) hin (fun z _ C => w_X2_canLay_e C x1 σ)
set_option maxRecDepth 100000 in
set_option maxHeartbeats 4000000 in
theorem w_X2_calledBy_41 {α : Nat → Nat} {D : va_G} {cA : Nat → ClassId} {z : Cz} (C : CX shX α D cA z RX2 cX2_calledBy 4 (some .int) 4 93) (k_13 : Int32 → Int32 → St → Option (Int32 × St)) (hk_13 : ∀ (x2 : Int32) (x3 : Int32) (σ : St), RX emI shX α D cA z 4 σ 13 [(0, .ref (α 6)), (2, .int x2), (3, .int x3)] [] (k_13 x2 x3 σ)) (x2 : Int32) (x3 : Int32) (σ : St) : RX emI shX α D cA z 4 σ 41 [(0, .ref (α 6)), (2, .int x2), (3, .int x3)] [] (f_X2_calledBy_41 k_13 x2 x3 σ) := by
  unfold f_X2_calledBy_41
  refine rx_iinc C (k0 := 2) (v := x3 + (1 : Int32)) [(3, .int (x3 + (1 : Int32))), (0, .ref (α 6)), (2, .int x2)] dX2_calledBy_41 rfl (congrArg _ ic_1) (by decide) rfl ?_
  refine rx_goto C (tgt := 13) dX2_calledBy_44 (by decide) ?_
  exact RX.loc (hk_13 x2 (x3 + (1 : Int32)) σ) [1, 2, 0] rfl
set_option maxRecDepth 100000 in
set_option maxHeartbeats 4000000 in
theorem w_X2_calledBy_13 {α : Nat → Nat} {D : va_G} {cA : Nat → ClassId} {z : Cz} (C : CX shX α D cA z RX2 cX2_calledBy 4 (some .int) 4 93) : ∀ (n : Nat) (x2 : Int32) (x3 : Int32) (σ : St), RX emI shX α D cA z 4 σ 13 [(0, .ref (α 6)), (2, .int x2), (3, .int x3)] [] (f_X2_calledBy_13 n x2 x3 σ) := by
  intro n
  induction n with
  | zero => intros; exact rx_none
  | succ n hk_13 =>
    intro x2 x3 σ
    rw [f_X2_calledBy_13.eq_2]
    refine rx_iload_n C 2 dX2_calledBy_13 rfl rfl ?_
    refine rx_aload_n C 0 dX2_calledBy_14 rfl rfl ?_
    refine rx_getR C (k := 0) sx_6 fc_X2 (by decide) rfl lk_X2_9 dX2_calledBy_15 ?_
    refine rx_ltr (fun g6 => ?_)
    refine rx_if (fun hg6 => ?_) (fun _ => rx_none)
    refine rx_getC C (k := 1) (ld_sh (landB_is hg6)) fc_X4 (by decide) (g6 + 4) rfl lk_X2_97 dX2_calledBy_18 ?_
    refine rx_getI C (k := 4) (ro_sh (ld_4 (landB_is hg6))) fc_X8 (by decide) rfl lk_X2_103 dX2_calledBy_21 ?_
    refine rx_icmp_ge C (tgt := 47) dX2_calledBy_24 (by decide) (fun _ => ?_) (fun _ => ?_)
    · refine rx_iload_n C 1 dX2_calledBy_47 rfl rfl ?_
      exact rx_iret C dX2_calledBy_48
    · refine rx_aload_n C 0 dX2_calledBy_27 rfl rfl ?_
      refine rx_iload_n C 2 dX2_calledBy_28 rfl rfl ?_
      refine rx_callVi C [.int x3] [] (m_X2_canLay z.l C.inj x3 σ) mv_X2_canLay lk_X2_198 sx_6 rfl rfl rfl (Nat.le_of_ble_eq_true rfl) ⟨Nat.le_of_ble_eq_true rfl, Nat.le_of_ble_eq_true rfl⟩ dX2_calledBy_29 (fun q7 => ?_)
      refine rx_if_eq C (tgt := 41) dX2_calledBy_32 (by decide) (fun _ => ?_) (fun _ => ?_)
      · exact RX.loc (w_X2_calledBy_41 C (f_X2_calledBy_13 n) hk_13 x2 x3 q7.2) [0, 1, 2] rfl
      · refine rx_iload_n C 1 dX2_calledBy_35 rfl rfl ?_
        refine rx_iconst C dX2_calledBy_36 ic_1 ?_
        refine rx_iload_n C 2 dX2_calledBy_37 rfl rfl ?_
        refine rx_ishl C dX2_calledBy_38 ?_
        refine rx_ior C dX2_calledBy_39 ?_
        refine rx_lti (fun w8 => ?_)
        refine rx_istore_n C [(2, .int w8), (0, .ref (α 6)), (3, .int x3)] dX2_calledBy_40 rfl (by decide) rfl ?_
        exact RX.loc (w_X2_calledBy_41 C (f_X2_calledBy_13 n) hk_13 w8 x3 q7.2) [1, 0, 2] rfl
set_option maxRecDepth 100000 in
set_option maxHeartbeats 4000000 in
theorem w_X2_calledBy_e {α : Nat → Nat} {D : va_G} {cA : Nat → ClassId} {z : Cz} (C : CX shX α D cA z RX2 cX2_calledBy 4 (some .int) 4 93) (x1 : Int32) (σ : St) : RX emI shX α D cA z 4 σ 0 [(0, .ref (α 6)), (1, .int x1)] [] (f_X2_calledBy x1 σ) := by
  unfold f_X2_calledBy
  refine rx_aload_n C 0 dX2_calledBy_0 rfl rfl ?_
  refine rx_iload_n C 1 dX2_calledBy_1 rfl rfl ?_
  refine rx_aload_n C 0 dX2_calledBy_2 rfl rfl ?_
  refine rx_getC C (k := 8) sx_6 fc_X2 (by decide) 11 rfl lk_X2_38 dX2_calledBy_3 ?_
  refine rx_callVv C [.int x1, .ref (α 11)] [] (m_X2_countLetters z.l C.inj 11 rfl x1 σ) mv_X2_countLetters lk_X2_194 sx_6 rfl rfl rfl (Nat.le_of_ble_eq_true rfl) ⟨Nat.le_of_ble_eq_true rfl, Nat.le_of_ble_eq_true rfl⟩ dX2_calledBy_6 (fun q5 => ?_)
  refine rx_iconst C dX2_calledBy_9 ic_0 ?_
  refine rx_istore_n C [(2, .int (0 : Int32)), (0, .ref (α 6)), (1, .int x1)] dX2_calledBy_10 rfl (by decide) rfl ?_
  refine rx_iconst C dX2_calledBy_11 ic_0 ?_
  refine rx_istore_n C [(3, .int (0 : Int32)), (2, .int (0 : Int32)), (0, .ref (α 6)), (1, .int x1)] dX2_calledBy_12 rfl (by decide) rfl ?_
  exact RX.loc (w_X2_calledBy_13 C FU (0 : Int32) (0 : Int32) q5.2) [2, 1, 0] rfl
theorem m_X2_calledBy (l : Launch) {α : Nat → Nat} {D : va_G} {cA : Nat → ClassId} (hin : inj shX.length α) (x1 : Int32) (σ : St) : CT shX l yX2_calledBy cX2_calledBy 4 (some .int) 4 93 emI α D cA [.ref (α 6), .int x1] σ (f_X2_calledBy x1 σ) := ct_of rfl (Nat.le_of_ble_eq_true rfl) hin (fun z _ C => w_X2_calledBy_e C x1 σ)
set_option maxRecDepth 100000 in
set_option maxHeartbeats 4000000 in
theorem w_X2_sharedOunces_23 {α : Nat → Nat} {D : va_G} {cA : Nat → ClassId} {z : Cz} (C : CX shX α D cA z RX2 cX2_sharedOunces 5 (some .int) 3 70) : ∀ (n : Nat) (x3 : Int32) (x4 : Int32) (σ : St), RX emI shX α D cA z 5 σ 23 [(0, .ref (α 6)), (3, .int x3), (4, .int x4)] [] (f_X2_sharedOunces_23 n x3 x4 σ) := by
  intro n
  induction n with
  | zero => intros; exact rx_none
  | succ n hk_23 =>
    intro x3 x4 σ
    rw [f_X2_sharedOunces_23.eq_2]
    refine rx_iload C 2 dX2_sharedOunces_23 rfl ?_
    refine rx_bipush C dX2_sharedOunces_25 bp_26 ?_
    refine rx_icmp_ge C (tgt := 66) dX2_sharedOunces_27 (by decide) (fun _ => ?_) (fun _ => ?_)
    · refine rx_iload_n C 1 dX2_sharedOunces_66 rfl rfl ?_
      exact rx_iret C dX2_sharedOunces_67
    · refine rx_iload_n C 1 dX2_sharedOunces_30 rfl rfl ?_
      refine rx_aload_n C 0 dX2_sharedOunces_31 rfl rfl ?_
      refine rx_getC C (k := 8) sx_6 fc_X2 (by decide) 11 rfl lk_X2_38 dX2_sharedOunces_32 ?_
      refine rx_iload C 2 dX2_sharedOunces_35 rfl ?_
      refine rx_iald C (n := 26) sx_11 dX2_sharedOunces_37 (fun _ => ?_)
      refine rx_aload_n C 0 dX2_sharedOunces_38 rfl rfl ?_
      refine rx_getC C (k := 9) sx_6 fc_X2 (by decide) 12 rfl lk_X2_41 dX2_sharedOunces_39 ?_
      refine rx_iload C 2 dX2_sharedOunces_42 rfl ?_
      refine rx_iald C (n := 26) sx_12 dX2_sharedOunces_44 (fun _ => ?_)
      refine rx_callSi C [.int (gI σ 11 (ix x4)), .int (gI σ 12 (ix x4))] [.int x3] (m_J9_min_7cf53 z.l C.inj (gI σ 11 (ix x4)) (gI σ 12 (ix x4)) σ) ms_J9_min_7cf53 lk_X2_182 rfl rfl (Nat.le_of_ble_eq_true rfl) ⟨Nat.le_of_ble_eq_true rfl, Nat.le_of_ble_eq_true rfl⟩ dX2_sharedOunces_45 (fun q9 => ?_)
      refine rx_aload_n C 0 dX2_sharedOunces_48 rfl rfl ?_
      refine rx_getR C (k := 0) sx_6 fc_X2 (by decide) rfl lk_X2_9 dX2_sharedOunces_49 ?_
      refine rx_ltr (fun g10 => ?_)
      refine rx_if (fun hg10 => ?_) (fun _ => rx_none)
      refine rx_iload C 2 dX2_sharedOunces_52 rfl ?_
      refine rx_callVi C [.int x4] [.int q9.1, .int x3] (m_X4_ouncesOf z.l C.inj g10 (landB_is hg10) x4 q9.2) mv_X4_ouncesOf lk_X2_137 (ld_sh (landB_is hg10)) rfl rfl rfl (Nat.le_of_ble_eq_true rfl) ⟨Nat.le_of_ble_eq_true rfl, Nat.le_of_ble_eq_true rfl⟩ dX2_sharedOunces_54 (fun q11 => ?_)
      refine rx_imul C dX2_sharedOunces_57 ?_
      refine rx_iadd C dX2_sharedOunces_58 ?_
      refine rx_lti (fun w12 => ?_)
      refine rx_istore_n C [(3, .int w12), (0, .ref (α 6)), (4, .int x4)] dX2_sharedOunces_59 rfl (by decide) rfl ?_
      refine rx_iinc C (k0 := 2) (v := x4 + (1 : Int32)) [(4, .int (x4 + (1 : Int32))), (3, .int w12), (0, .ref (α 6))] dX2_sharedOunces_60 rfl (congrArg _ ic_1) (by decide) rfl ?_
      refine rx_goto C (tgt := 23) dX2_sharedOunces_63 (by decide) ?_
      exact RX.loc (hk_23 w12 (x4 + (1 : Int32)) q11.2) [2, 1, 0] rfl
set_option maxRecDepth 100000 in
set_option maxHeartbeats 4000000 in
theorem w_X2_sharedOunces_e {α : Nat → Nat} {D : va_G} {cA : Nat → ClassId} {z : Cz} (C : CX shX α D cA z RX2 cX2_sharedOunces 5 (some .int) 3 70) (x1 : Int32) (x2 : Int32) (σ : St) : RX emI shX α D cA z 5 σ 0 [(0, .ref (α 6)), (1, .int x1), (2, .int x2)] [] (f_X2_sharedOunces x1 x2 σ) := by
  unfold f_X2_sharedOunces
  refine rx_aload_n C 0 dX2_sharedOunces_0 rfl rfl ?_
  refine rx_iload_n C 1 dX2_sharedOunces_1 rfl rfl ?_
  refine rx_aload_n C 0 dX2_sharedOunces_2 rfl rfl ?_
  refine rx_getC C (k := 8) sx_6 fc_X2 (by decide) 11 rfl lk_X2_38 dX2_sharedOunces_3 ?_
  refine rx_callVv C [.int x1, .ref (α 11)] [] (m_X2_countLetters z.l C.inj 11 rfl x1 σ) mv_X2_countLetters lk_X2_194 sx_6 rfl rfl rfl (Nat.le_of_ble_eq_true rfl) ⟨Nat.le_of_ble_eq_true rfl, Nat.le_of_ble_eq_true rfl⟩ dX2_sharedOunces_6 (fun q7 => ?_)
  refine rx_aload_n C 0 dX2_sharedOunces_9 rfl rfl ?_
  refine rx_iload_n C 2 dX2_sharedOunces_10 rfl rfl ?_
  refine rx_aload_n C 0 dX2_sharedOunces_11 rfl rfl ?_
  refine rx_getC C (k := 9) sx_6 fc_X2 (by decide) 12 rfl lk_X2_41 dX2_sharedOunces_12 ?_
  refine rx_callVv C [.int x2, .ref (α 12)] [] (m_X2_countLetters z.l C.inj 12 rfl x2 q7.2) mv_X2_countLetters lk_X2_194 sx_6 rfl rfl rfl (Nat.le_of_ble_eq_true rfl) ⟨Nat.le_of_ble_eq_true rfl, Nat.le_of_ble_eq_true rfl⟩ dX2_sharedOunces_15 (fun q8 => ?_)
  refine rx_iconst C dX2_sharedOunces_18 ic_0 ?_
  refine rx_istore_n C [(3, .int (0 : Int32)), (0, .ref (α 6)), (1, .int x1), (2, .int x2)] dX2_sharedOunces_19 rfl (by decide) rfl ?_
  refine rx_iconst C dX2_sharedOunces_20 ic_0 ?_
  refine rx_istore C [(4, .int (0 : Int32)), (3, .int (0 : Int32)), (0, .ref (α 6)), (1, .int x1), (2, .int x2)] dX2_sharedOunces_21 (by decide) rfl ?_
  exact RX.loc (w_X2_sharedOunces_23 C FU (0 : Int32) (0 : Int32) q8.2) [2, 1, 0] rfl
theorem m_X2_sharedOunces (l : Launch) {α : Nat → Nat} {D : va_G} {cA : Nat → ClassId} (hin : inj shX.length α) (x1 : Int32) (x2 : Int32) (σ : St) : CT shX l yX2_sharedOunces cX2_sharedOunces 5 (some .int) 3 70 emI α D cA [.ref (α 6), .int x1, .int x2] σ (f_X2_sharedOunces x1 x2 σ) := ct_of rfl (Nat.le_of_ble_eq_true rfl) hin (fun z _ C => w_X2_sharedOunces_e C x1 x2 σ)
set_option maxRecDepth 100000 in
set_option maxHeartbeats 4000000 in
theorem w_X3_put_53 {α : Nat → Nat} {D : va_G} {cA : Nat → ClassId} {z : Cz} (C : CX shX α D cA z RX3 cX3_put 4 none 0 0) (σ : St) : RX emV shX α D cA z 4 σ 53 [] [] (f_X3_put_53 σ) := by
  unfold f_X3_put_53
  exact rx_vret C dX3_put_53
set_option maxRecDepth 100000 in
set_option maxHeartbeats 4000000 in
theorem w_X3_put_7 {α : Nat → Nat} {D : va_G} {cA : Nat → ClassId} {z : Cz} (C : CX shX α D cA z RX3 cX3_put 4 none 0 0) : ∀ (n : Nat) (x1 : Int32) (x3 : Int32) (σ : St), RX emV shX α D cA z 4 σ 7 [(0, .ref (α 32)), (1, .int x1), (3, .int x3)] [] (f_X3_put_7 n x1 x3 σ) := by
  intro n
  induction n with
  | zero => intros; exact rx_none
  | succ n hk_7 =>
    intro x1 x3 σ
    rw [f_X3_put_7.eq_2]
    refine rx_iload_n C 2 dX3_put_7 rfl rfl ?_
    refine rx_if_lt C (tgt := 53) dX3_put_8 (by decide) (fun _ => ?_) (fun _ => ?_)
    · exact RX.loc (w_X3_put_53 C σ) [] rfl
    · refine rx_aload_n C 0 dX3_put_11 rfl rfl ?_
      refine rx_getI C (k := 1) sx_32 fc_X3 (by decide) rfl lk_X3_15 dX3_put_12 ?_
      refine rx_sipush C dX3_put_15 sp_551 ?_
      refine rx_icmp_ge C (tgt := 53) dX3_put_18 (by decide) (fun _ => ?_) (fun _ => ?_)
      · exact RX.loc (w_X3_put_53 C σ) [] rfl
      · refine rx_aload_n C 0 dX3_put_21 rfl rfl ?_
        refine rx_getC C (k := 0) sx_32 fc_X3 (by decide) 33 rfl lk_X3_11 dX3_put_22 ?_
        refine rx_aload_n C 0 dX3_put_25 rfl rfl ?_
        refine rx_getI C (k := 1) sx_32 fc_X3 (by decide) rfl lk_X3_15 dX3_put_26 ?_
        refine rx_iload_n C 1 dX3_put_29 rfl rfl ?_
        refine rx_iload_n C 2 dX3_put_30 rfl rfl ?_
        refine rx_ishr C dX3_put_31 ?_
        refine rx_sipush C dX3_put_32 sp_255 ?_
        refine rx_iand C dX3_put_35 ?_
        refine rx_iast C (n := 551) sx_33 dX3_put_36 (fun _ => ?_)
        refine rx_lts (fun σ5 => ?_)
        refine rx_aload_n C 0 dX3_put_37 rfl rfl ?_
        refine rx_dup C dX3_put_38 rfl ?_
        refine rx_getI C (k := 1) sx_32 fc_X3 (by decide) rfl lk_X3_15 dX3_put_39 ?_
        refine rx_iconst C dX3_put_42 ic_1 ?_
        refine rx_iadd C dX3_put_43 ?_
        refine rx_putI C (k := 1) sx_32 fc_X3 (by decide) rfl lk_X3_15 rfl ⟨rfl, rfl⟩ dX3_put_44 ?_
        refine rx_lts (fun σ6 => ?_)
        refine rx_iinc C (k0 := 2) (v := x3 + (-8 : Int32)) [(3, .int (x3 + (-8 : Int32))), (0, .ref (α 32)), (1, .int x1)] dX3_put_47 rfl (congrArg _ ic_m8) (by decide) rfl ?_
        refine rx_goto C (tgt := 7) dX3_put_50 (by decide) ?_
        exact RX.loc (hk_7 x1 (x3 + (-8 : Int32)) σ6) [1, 2, 0] rfl
set_option maxRecDepth 100000 in
set_option maxHeartbeats 4000000 in
theorem w_X3_put_e {α : Nat → Nat} {D : va_G} {cA : Nat → ClassId} {z : Cz} (C : CX shX α D cA z RX3 cX3_put 4 none 0 0) (x1 : Int32) (x2 : Int32) (σ : St) : RX emV shX α D cA z 4 σ 0 [(0, .ref (α 32)), (1, .int x1), (2, .int x2)] [] (f_X3_put x1 x2 σ) := by
  unfold f_X3_put
  refine rx_bipush C dX3_put_0 bp_8 ?_
  refine rx_iload_n C 2 dX3_put_2 rfl rfl ?_
  refine rx_iconst C dX3_put_3 ic_1 ?_
  refine rx_isub C dX3_put_4 ?_
  refine rx_imul C dX3_put_5 ?_
  refine rx_lti (fun w4 => ?_)
  refine rx_istore_n C [(3, .int w4), (0, .ref (α 32)), (1, .int x1), (2, .int x2)] dX3_put_6 rfl (by decide) rfl ?_
  exact RX.loc (w_X3_put_7 C FU x1 w4 σ) [1, 2, 0] rfl
theorem m_X3_put (l : Launch) {α : Nat → Nat} {D : va_G} {cA : Nat → ClassId} (hin : inj shX.length α) (x1 : Int32) (x2 : Int32) (σ : St) : CT shX l yX3_put cX3_put 4 none 0 0 emV α D cA [.ref (α 32), .int x1, .int x2] σ (f_X3_put x1 x2 σ) := ct_of rfl (Nat.le_of_ble_eq_true rfl) hin (fun z _ C => w_X3_put_e C x1 x2 σ)
set_option maxRecDepth 100000 in
set_option maxHeartbeats 4000000 in
theorem w_X3_putLetters_2 {α : Nat → Nat} {D : va_G} {cA : Nat → ClassId} {z : Cz} (C : CX shX α D cA z RX3 cX3_putLetters 4 none 1 23) : ∀ (n : Nat) (x2 : Int32) (x3 : Int32) (σ : St), RX emV shX α D cA z 4 σ 2 [(0, .ref (α 32)), (1, .ref (α 6)), (2, .int x2), (3, .int x3)] [] (f_X3_putLetters_2 n x2 x3 σ) := by
  intro n
  induction n with
  | zero => intros; exact rx_none
  | succ n hk_2 =>
    intro x2 x3 σ
    rw [f_X3_putLetters_2.eq_2]
    refine rx_iload_n C 3 dX3_putLetters_2 rfl rfl ?_
    refine rx_bipush C dX3_putLetters_3 bp_26 ?_
    refine rx_icmp_ge C (tgt := 25) dX3_putLetters_5 (by decide) (fun _ => ?_) (fun _ => ?_)
    · exact rx_vret C dX3_putLetters_25
    · refine rx_aload_n C 0 dX3_putLetters_8 rfl rfl ?_
      refine rx_aload_n C 1 dX3_putLetters_9 rfl rfl ?_
      refine rx_iload_n C 2 dX3_putLetters_10 rfl rfl ?_
      refine rx_iload_n C 3 dX3_putLetters_11 rfl rfl ?_
      refine rx_callVi C [.int x2, .int x3] [.ref (α 32)] (m_X2_count z.l C.inj x2 x3 σ) mv_X2_count lk_X3_64 sx_6 rfl rfl rfl (Nat.le_of_ble_eq_true rfl) ⟨Nat.le_of_ble_eq_true rfl, Nat.le_of_ble_eq_true rfl⟩ dX3_putLetters_12 (fun q3 => ?_)
      refine rx_iconst C dX3_putLetters_15 ic_2 ?_
      refine rx_callVv C [.int q3.1, .int (2 : Int32)] [] (m_X3_put z.l C.inj q3.1 (2 : Int32) q3.2) mv_X3_put lk_X3_24 sx_32 rfl rfl rfl (Nat.le_of_ble_eq_true rfl) ⟨Nat.le_of_ble_eq_true rfl, Nat.le_of_ble_eq_true rfl⟩ dX3_putLetters_16 (fun q4 => ?_)
      refine rx_iinc C (k0 := 3) (v := x3 + (1 : Int32)) [(3, .int (x3 + (1 : Int32))), (0, .ref (α 32)), (1, .ref (α 6)), (2, .int x2)] dX3_putLetters_19 rfl (congrArg _ ic_1) (by decide) rfl ?_
      refine rx_goto C (tgt := 2) dX3_putLetters_22 (by decide) ?_
      exact RX.loc (hk_2 x2 (x3 + (1 : Int32)) q4.2) [1, 2, 3, 0] rfl
set_option maxRecDepth 100000 in
set_option maxHeartbeats 4000000 in
theorem w_X3_putLetters_e {α : Nat → Nat} {D : va_G} {cA : Nat → ClassId} {z : Cz} (C : CX shX α D cA z RX3 cX3_putLetters 4 none 1 23) (x2 : Int32) (σ : St) : RX emV shX α D cA z 4 σ 0 [(0, .ref (α 32)), (1, .ref (α 6)), (2, .int x2)] [] (f_X3_putLetters x2 σ) := by
  unfold f_X3_putLetters
  refine rx_iconst C dX3_putLetters_0 ic_0 ?_
  refine rx_istore_n C [(3, .int (0 : Int32)), (0, .ref (α 32)), (1, .ref (α 6)), (2, .int x2)] dX3_putLetters_1 rfl (by decide) rfl ?_
  exact RX.loc (w_X3_putLetters_2 C FU x2 (0 : Int32) σ) [1, 2, 3, 0] rfl
theorem m_X3_putLetters (l : Launch) {α : Nat → Nat} {D : va_G} {cA : Nat → ClassId} (hin : inj shX.length α) (x2 : Int32) (σ : St) : CT shX l yX3_putLetters cX3_putLetters 4 none 1 23 emV α D cA [.ref (α 32), .ref (α 6), .int x2] σ (f_X3_putLetters x2 σ) := ct_of rfl (Nat.le_of_ble_eq_true rfl) hin (fun z _ C => w_X3_putLetters_e C x2 σ)
set_option maxRecDepth 100000 in
set_option maxHeartbeats 4000000 in
theorem w_X3_seal_34 {α : Nat → Nat} {D : va_G} {cA : Nat → ClassId} {z : Cz} (C : CX shX α D cA z RX3 cX3_seal 4 (some .int) 0 0) (r0 : Nat) (hr0 : arI r0) (x2 : Int32) (σ : St) : RX emI shX α D cA z 4 σ 34 [(2, .int x2)] [] (f_X3_seal_34 r0 x2 σ) := by
  unfold f_X3_seal_34
  refine rx_iload_n C 0 dX3_seal_34 rfl rfl ?_
  exact rx_iret C dX3_seal_35
set_option maxRecDepth 100000 in
set_option maxHeartbeats 4000000 in
theorem w_X3_seal_5 {α : Nat → Nat} {D : va_G} {cA : Nat → ClassId} {z : Cz} (C : CX shX α D cA z RX3 cX3_seal 4 (some .int) 0 0) (r0 : Nat) (hr0 : arI r0) : ∀ (n : Nat) (x1 : Int32) (x2 : Int32) (x3 : Int32) (σ : St), RX emI shX α D cA z 4 σ 5 [(0, .ref (α r0)), (1, .int x1), (2, .int x2), (3, .int x3)] [] (f_X3_seal_5 r0 n x1 x2 x3 σ) := by
  intro n
  induction n with
  | zero => intros; exact rx_none
  | succ n hk_5 =>
    intro x1 x2 x3 σ
    rw [f_X3_seal_5.eq_2]
    refine rx_iload_n C 3 dX3_seal_5 rfl rfl ?_
    refine rx_iload_n C 1 dX3_seal_6 rfl rfl ?_
    refine rx_icmp_ge C (tgt := 34) dX3_seal_7 (by decide) (fun _ => ?_) (fun _ => ?_)
    · exact RX.loc (w_X3_seal_34 C r0 hr0 x2 σ) [2] rfl
    · refine rx_iload_n C 3 dX3_seal_10 rfl rfl ?_
      refine rx_aload_n C 0 dX3_seal_11 rfl rfl ?_
      refine rx_alen C (n := (lnX r0)) hr0 rfl dX3_seal_12 ?_
      refine rx_icmp_ge C (tgt := 34) dX3_seal_13 (by decide) (fun _ => ?_) (fun _ => ?_)
      · exact RX.loc (w_X3_seal_34 C r0 hr0 x2 σ) [2] rfl
      · refine rx_iconst C dX3_seal_16 ic_3 ?_
        refine rx_iload_n C 2 dX3_seal_17 rfl rfl ?_
        refine rx_imul C dX3_seal_18 ?_
        refine rx_aload_n C 0 dX3_seal_19 rfl rfl ?_
        refine rx_iload_n C 3 dX3_seal_20 rfl rfl ?_
        refine rx_iald C (n := (lnX r0)) hr0 dX3_seal_21 (fun _ => ?_)
        refine rx_iadd C dX3_seal_22 ?_
        refine rx_sipush C dX3_seal_23 sp_239 ?_
        refine rx_iremC C dX3_seal_26 (by decide) ?_
        refine rx_lti (fun w2 => ?_)
        refine rx_istore_n C [(2, .int w2), (0, .ref (α r0)), (1, .int x1), (3, .int x3)] dX3_seal_27 rfl (by decide) rfl ?_
        refine rx_iinc C (k0 := 3) (v := x3 + (1 : Int32)) [(3, .int (x3 + (1 : Int32))), (2, .int w2), (0, .ref (α r0)), (1, .int x1)] dX3_seal_28 rfl (congrArg _ ic_1) (by decide) rfl ?_
        refine rx_goto C (tgt := 5) dX3_seal_31 (by decide) ?_
        exact RX.loc (hk_5 x1 w2 (x3 + (1 : Int32)) σ) [2, 3, 1, 0] rfl
set_option maxRecDepth 100000 in
set_option maxHeartbeats 4000000 in
theorem w_X3_seal_e {α : Nat → Nat} {D : va_G} {cA : Nat → ClassId} {z : Cz} (C : CX shX α D cA z RX3 cX3_seal 4 (some .int) 0 0) (r0 : Nat) (hr0 : arI r0) (x1 : Int32) (σ : St) : RX emI shX α D cA z 4 σ 0 [(0, .ref (α r0)), (1, .int x1)] [] (f_X3_seal r0 x1 σ) := by
  unfold f_X3_seal
  refine rx_bipush C dX3_seal_0 bp_41 ?_
  refine rx_istore_n C [(2, .int (41 : Int32)), (0, .ref (α r0)), (1, .int x1)] dX3_seal_2 rfl (by decide) rfl ?_
  refine rx_iconst C dX3_seal_3 ic_0 ?_
  refine rx_istore_n C [(3, .int (0 : Int32)), (2, .int (41 : Int32)), (0, .ref (α r0)), (1, .int x1)] dX3_seal_4 rfl (by decide) rfl ?_
  exact RX.loc (w_X3_seal_5 C r0 hr0 FU x1 (41 : Int32) (0 : Int32) σ) [2, 3, 1, 0] rfl
theorem m_X3_seal (l : Launch) {α : Nat → Nat} {D : va_G} {cA : Nat → ClassId} (hin : inj shX.length α) (r0 : Nat) (hr0 : arI r0) (x1 : Int32) (σ : St) : CT shX l yX3_seal cX3_seal 4 (some .int) 0 0 emI α D cA [.ref (α r0), .int x1] σ (f_X3_seal r0 x1 σ) := ct_of rfl (Nat.le_of_ble_eq_true rfl) hin (fun z _ C => w_X3_seal_e C r0 hr0 x1 σ)
set_option maxRecDepth 100000 in
set_option maxHeartbeats 4000000 in
theorem w_X3_write_110 {α : Nat → Nat} {D : va_G} {cA : Nat → ClassId} {z : Cz} (C : CX shX α D cA z RX3 cX3_write 3 none 2 46) (σ : St) : RX emV shX α D cA z 3 σ 110 [(0, .ref (α 32))] [] (f_X3_write_110 σ) := by
  unfold f_X3_write_110
  refine rx_aload_n C 0 dX3_write_110 rfl rfl ?_
  refine rx_aload_n C 0 dX3_write_111 rfl rfl ?_
  refine rx_getC C (k := 0) sx_32 fc_X3 (by decide) 33 rfl lk_X3_11 dX3_write_112 ?_
  refine rx_aload_n C 0 dX3_write_115 rfl rfl ?_
  refine rx_getI C (k := 1) sx_32 fc_X3 (by decide) rfl lk_X3_15 dX3_write_116 ?_
  refine rx_callSi C [.ref (α 33), .int (gI σ 32 1)] [.ref (α 32)] (m_X3_seal z.l C.inj 33 rfl (gI σ 32 1) σ) ms_X3_seal lk_X3_60 rfl rfl (Nat.le_of_ble_eq_true rfl) ⟨Nat.le_of_ble_eq_true rfl, Nat.le_of_ble_eq_true rfl⟩ dX3_write_119 (fun q19 => ?_)
  refine rx_iconst C dX3_write_122 ic_1 ?_
  refine rx_callVv C [.int q19.1, .int (1 : Int32)] [] (m_X3_put z.l C.inj q19.1 (1 : Int32) q19.2) mv_X3_put lk_X3_24 sx_32 rfl rfl rfl (Nat.le_of_ble_eq_true rfl) ⟨Nat.le_of_ble_eq_true rfl, Nat.le_of_ble_eq_true rfl⟩ dX3_write_123 (fun q20 => ?_)
  exact rx_vret C dX3_write_126
set_option maxRecDepth 100000 in
set_option maxHeartbeats 4000000 in
theorem w_X3_write_79 {α : Nat → Nat} {D : va_G} {cA : Nat → ClassId} {z : Cz} (C : CX shX α D cA z RX3 cX3_write 3 none 2 46) : ∀ (n : Nat) (x2 : Int32) (σ : St), RX emV shX α D cA z 3 σ 79 [(0, .ref (α 32)), (1, .ref (α 6)), (2, .int x2)] [] (f_X3_write_79 n x2 σ) := by
  intro n
  induction n with
  | zero => intros; exact rx_none
  | succ n hk_79 =>
    intro x2 σ
    rw [f_X3_write_79.eq_2]
    refine rx_iload_n C 2 dX3_write_79 rfl rfl ?_
    refine rx_aload_n C 1 dX3_write_80 rfl rfl ?_
    refine rx_getI C (k := 3) sx_6 fc_X2 (by decide) rfl lk_X3_54 dX3_write_81 ?_
    refine rx_icmp_ge C (tgt := 110) dX3_write_84 (by decide) (fun _ => ?_) (fun _ => ?_)
    · exact RX.loc (w_X3_write_110 C σ) [0] rfl
    · refine rx_iload_n C 2 dX3_write_87 rfl rfl ?_
      refine rx_bipush C dX3_write_88 bp_30 ?_
      refine rx_icmp_ge C (tgt := 110) dX3_write_90 (by decide) (fun _ => ?_) (fun _ => ?_)
      · exact RX.loc (w_X3_write_110 C σ) [0] rfl
      · refine rx_aload_n C 0 dX3_write_93 rfl rfl ?_
        refine rx_aload_n C 1 dX3_write_94 rfl rfl ?_
        refine rx_getC C (k := 6) sx_6 fc_X2 (by decide) 9 rfl lk_X3_57 dX3_write_95 ?_
        refine rx_iload_n C 2 dX3_write_98 rfl rfl ?_
        refine rx_iald C (n := 30) sx_9 dX3_write_99 (fun _ => ?_)
        refine rx_iconst C dX3_write_100 ic_2 ?_
        refine rx_callVv C [.int (gI σ 9 (ix x2)), .int (2 : Int32)] [] (m_X3_put z.l C.inj (gI σ 9 (ix x2)) (2 : Int32) σ) mv_X3_put lk_X3_24 sx_32 rfl rfl rfl (Nat.le_of_ble_eq_true rfl) ⟨Nat.le_of_ble_eq_true rfl, Nat.le_of_ble_eq_true rfl⟩ dX3_write_101 (fun q21 => ?_)
        refine rx_iinc C (k0 := 2) (v := x2 + (1 : Int32)) [(2, .int (x2 + (1 : Int32))), (0, .ref (α 32)), (1, .ref (α 6))] dX3_write_104 rfl (congrArg _ ic_1) (by decide) rfl ?_
        refine rx_goto C (tgt := 79) dX3_write_107 (by decide) ?_
        exact RX.loc (hk_79 (x2 + (1 : Int32)) q21.2) [1, 2, 0] rfl
set_option maxRecDepth 100000 in
set_option maxHeartbeats 4000000 in
theorem w_X3_write_16 {α : Nat → Nat} {D : va_G} {cA : Nat → ClassId} {z : Cz} (C : CX shX α D cA z RX3 cX3_write 3 none 2 46) : ∀ (n : Nat) (x2 : Int32) (σ : St), RX emV shX α D cA z 3 σ 16 [(0, .ref (α 32)), (1, .ref (α 6)), (2, .int x2)] [] (f_X3_write_16 n x2 σ) := by
  intro n
  induction n with
  | zero => intros; exact rx_none
  | succ n hk_16 =>
    intro x2 σ
    rw [f_X3_write_16.eq_2]
    refine rx_iload_n C 2 dX3_write_16 rfl rfl ?_
    refine rx_aload_n C 1 dX3_write_17 rfl rfl ?_
    refine rx_getR C (k := 0) sx_6 fc_X2 (by decide) rfl lk_X3_28 dX3_write_18 ?_
    refine rx_ltr (fun g15 => ?_)
    refine rx_if (fun hg15 => ?_) (fun _ => rx_none)
    refine rx_getC C (k := 0) (ld_sh (landB_is hg15)) fc_X4 (by decide) (g15 + 1) rfl lk_X3_32 dX3_write_21 ?_
    refine rx_getI C (k := 4) (ro_sh (ld_1 (landB_is hg15))) fc_X8 (by decide) rfl lk_X3_38 dX3_write_24 ?_
    refine rx_icmp_ge C (tgt := 52) dX3_write_27 (by decide) (fun _ => ?_) (fun _ => ?_)
    · refine rx_aload_n C 0 dX3_write_52 rfl rfl ?_
      refine rx_aload_n C 1 dX3_write_53 rfl rfl ?_
      refine rx_bipush C dX3_write_54 bp_8 ?_
      refine rx_callVv C [.ref (α 6), .int (8 : Int32)] [] (m_X3_putLetters z.l C.inj (8 : Int32) σ) mv_X3_putLetters lk_X3_47 sx_32 rfl rfl rfl (Nat.le_of_ble_eq_true rfl) ⟨Nat.le_of_ble_eq_true rfl, Nat.le_of_ble_eq_true rfl⟩ dX3_write_56 (fun q16 => ?_)
      refine rx_aload_n C 0 dX3_write_59 rfl rfl ?_
      refine rx_aload_n C 1 dX3_write_60 rfl rfl ?_
      refine rx_getI C (k := 2) sx_6 fc_X2 (by decide) rfl lk_X3_51 dX3_write_61 ?_
      refine rx_iconst C dX3_write_64 ic_3 ?_
      refine rx_callVv C [.int (gI q16.2 6 2), .int (3 : Int32)] [] (m_X3_put z.l C.inj (gI q16.2 6 2) (3 : Int32) q16.2) mv_X3_put lk_X3_24 sx_32 rfl rfl rfl (Nat.le_of_ble_eq_true rfl) ⟨Nat.le_of_ble_eq_true rfl, Nat.le_of_ble_eq_true rfl⟩ dX3_write_65 (fun q17 => ?_)
      refine rx_aload_n C 0 dX3_write_68 rfl rfl ?_
      refine rx_aload_n C 1 dX3_write_69 rfl rfl ?_
      refine rx_getI C (k := 3) sx_6 fc_X2 (by decide) rfl lk_X3_54 dX3_write_70 ?_
      refine rx_iconst C dX3_write_73 ic_1 ?_
      refine rx_callVv C [.int (gI q17.2 6 3), .int (1 : Int32)] [] (m_X3_put z.l C.inj (gI q17.2 6 3) (1 : Int32) q17.2) mv_X3_put lk_X3_24 sx_32 rfl rfl rfl (Nat.le_of_ble_eq_true rfl) ⟨Nat.le_of_ble_eq_true rfl, Nat.le_of_ble_eq_true rfl⟩ dX3_write_74 (fun q18 => ?_)
      refine rx_iconst C dX3_write_77 ic_0 ?_
      refine rx_istore_n C [(2, .int (0 : Int32)), (0, .ref (α 32)), (1, .ref (α 6))] dX3_write_78 rfl (by decide) rfl ?_
      exact RX.loc (w_X3_write_79 C FU (0 : Int32) q18.2) [1, 2, 0] rfl
    · refine rx_aload_n C 0 dX3_write_30 rfl rfl ?_
      refine rx_aload_n C 1 dX3_write_31 rfl rfl ?_
      refine rx_iload_n C 2 dX3_write_32 rfl rfl ?_
      refine rx_callVi C [.int x2] [.ref (α 32)] (m_X2_titlesOf z.l C.inj x2 σ) mv_X2_titlesOf lk_X3_43 sx_6 rfl rfl rfl (Nat.le_of_ble_eq_true rfl) ⟨Nat.le_of_ble_eq_true rfl, Nat.le_of_ble_eq_true rfl⟩ dX3_write_33 (fun q22 => ?_)
      refine rx_iconst C dX3_write_36 ic_2 ?_
      refine rx_callVv C [.int q22.1, .int (2 : Int32)] [] (m_X3_put z.l C.inj q22.1 (2 : Int32) q22.2) mv_X3_put lk_X3_24 sx_32 rfl rfl rfl (Nat.le_of_ble_eq_true rfl) ⟨Nat.le_of_ble_eq_true rfl, Nat.le_of_ble_eq_true rfl⟩ dX3_write_37 (fun q23 => ?_)
      refine rx_aload_n C 0 dX3_write_40 rfl rfl ?_
      refine rx_aload_n C 1 dX3_write_41 rfl rfl ?_
      refine rx_iload_n C 2 dX3_write_42 rfl rfl ?_
      refine rx_callVv C [.ref (α 6), .int x2] [] (m_X3_putLetters z.l C.inj x2 q23.2) mv_X3_putLetters lk_X3_47 sx_32 rfl rfl rfl (Nat.le_of_ble_eq_true rfl) ⟨Nat.le_of_ble_eq_true rfl, Nat.le_of_ble_eq_true rfl⟩ dX3_write_43 (fun q24 => ?_)
      refine rx_iinc C (k0 := 2) (v := x2 + (1 : Int32)) [(2, .int (x2 + (1 : Int32))), (0, .ref (α 32)), (1, .ref (α 6))] dX3_write_46 rfl (congrArg _ ic_1) (by decide) rfl ?_
      refine rx_goto C (tgt := 16) dX3_write_49 (by decide) ?_
      exact RX.loc (hk_16 (x2 + (1 : Int32)) q24.2) [1, 2, 0] rfl
set_option maxRecDepth 100000 in
set_option maxHeartbeats 4000000 in
theorem w_X3_write_e {α : Nat → Nat} {D : va_G} {cA : Nat → ClassId} {z : Cz} (C : CX shX α D cA z RX3 cX3_write 3 none 2 46) (σ : St) : RX emV shX α D cA z 3 σ 0 [(0, .ref (α 32)), (1, .ref (α 6))] [] (f_X3_write σ) := by
  unfold f_X3_write
  refine rx_aload_n C 0 dX3_write_0 rfl rfl ?_
  refine rx_iconst C dX3_write_1 ic_0 ?_
  refine rx_putI C (k := 1) sx_32 fc_X3 (by decide) rfl lk_X3_15 rfl ⟨rfl, rfl⟩ dX3_write_2 ?_
  refine rx_lts (fun σ13 => ?_)
  refine rx_aload_n C 0 dX3_write_5 rfl rfl ?_
  refine rx_aload_n C 1 dX3_write_6 rfl rfl ?_
  refine rx_getI C (k := 1) sx_6 fc_X2 (by decide) rfl lk_X3_19 dX3_write_7 ?_
  refine rx_iconst C dX3_write_10 ic_2 ?_
  refine rx_callVv C [.int (gI σ13 6 1), .int (2 : Int32)] [] (m_X3_put z.l C.inj (gI σ13 6 1) (2 : Int32) σ13) mv_X3_put lk_X3_24 sx_32 rfl rfl rfl (Nat.le_of_ble_eq_true rfl) ⟨Nat.le_of_ble_eq_true rfl, Nat.le_of_ble_eq_true rfl⟩ dX3_write_11 (fun q14 => ?_)
  refine rx_iconst C dX3_write_14 ic_0 ?_
  refine rx_istore_n C [(2, .int (0 : Int32)), (0, .ref (α 32)), (1, .ref (α 6))] dX3_write_15 rfl (by decide) rfl ?_
  exact RX.loc (w_X3_write_16 C FU (0 : Int32) q14.2) [1, 2, 0] rfl
theorem m_X3_write (l : Launch) {α : Nat → Nat} {D : va_G} {cA : Nat → ClassId} (hin : inj shX.length α) (σ : St) : CT shX l yX3_write cX3_write 3 none 2 46 emV α D cA [.ref (α 32), .ref (α 6)] σ (f_X3_write σ) := ct_of rfl (Nat.le_of_ble_eq_true rfl) hin (fun z _ C => w_X3_write_e C σ)
set_option maxRecDepth 100000 in
set_option maxHeartbeats 4000000 in
theorem w_X3_number_37 {α : Nat → Nat} {D : va_G} {cA : Nat → ClassId} {z : Cz} (C : CX shX α D cA z RX3 cX3_number 5 (some .int) 0 0) (r0 : Nat) (hr0 : arI r0) (k_5 : Int32 → Int32 → Int32 → Int32 → St → Option (Int32 × St)) (hk_5 : ∀ (x1 : Int32) (x2 : Int32) (x3 : Int32) (x4 : Int32) (σ : St), RX emI shX α D cA z 5 σ 5 [(0, .ref (α r0)), (1, .int x1), (2, .int x2), (3, .int x3), (4, .int x4)] [] (k_5 x1 x2 x3 x4 σ)) (x1 : Int32) (x2 : Int32) (x4 : Int32) (s1 : Int32) (s0 : Int32) (σ : St) : RX emI shX α D cA z 5 σ 37 [(0, .ref (α r0)), (1, .int x1), (2, .int x2), (4, .int x4)] [.int s1, .int s0] (f_X3_number_37 r0 k_5 x1 x2 x4 s1 s0 σ) := by
  unfold f_X3_number_37
  refine rx_ior C dX3_number_37 ?_
  refine rx_lti (fun w2 => ?_)
  refine rx_istore_n C [(3, .int w2), (0, .ref (α r0)), (1, .int x1), (2, .int x2), (4, .int x4)] dX3_number_38 rfl (by decide) rfl ?_
  refine rx_iinc C (k0 := 4) (v := x4 + (1 : Int32)) [(4, .int (x4 + (1 : Int32))), (3, .int w2), (0, .ref (α r0)), (1, .int x1), (2, .int x2)] dX3_number_39 rfl (congrArg _ ic_1) (by decide) rfl ?_
  refine rx_goto C (tgt := 5) dX3_number_42 (by decide) ?_
  exact RX.loc (hk_5 x1 x2 w2 (x4 + (1 : Int32)) σ) [2, 3, 4, 1, 0] rfl
set_option maxRecDepth 100000 in
set_option maxHeartbeats 4000000 in
theorem w_X3_number_36 {α : Nat → Nat} {D : va_G} {cA : Nat → ClassId} {z : Cz} (C : CX shX α D cA z RX3 cX3_number 5 (some .int) 0 0) (r0 : Nat) (hr0 : arI r0) (k_5 : Int32 → Int32 → Int32 → Int32 → St → Option (Int32 × St)) (hk_5 : ∀ (x1 : Int32) (x2 : Int32) (x3 : Int32) (x4 : Int32) (σ : St), RX emI shX α D cA z 5 σ 5 [(0, .ref (α r0)), (1, .int x1), (2, .int x2), (3, .int x3), (4, .int x4)] [] (k_5 x1 x2 x3 x4 σ)) (x1 : Int32) (x2 : Int32) (x4 : Int32) (s0 : Int32) (σ : St) : RX emI shX α D cA z 5 σ 36 [(0, .ref (α r0)), (1, .int x1), (2, .int x2), (4, .int x4)] [.int s0] (f_X3_number_36 r0 k_5 x1 x2 x4 s0 σ) := by
  unfold f_X3_number_36
  refine rx_iconst C dX3_number_36 ic_0 ?_
  exact RX.loc (w_X3_number_37 C r0 hr0 k_5 hk_5 x1 x2 x4 (0 : Int32) s0 σ) [0, 1, 2, 3] rfl
set_option maxRecDepth 100000 in
set_option maxHeartbeats 4000000 in
theorem w_X3_number_5 {α : Nat → Nat} {D : va_G} {cA : Nat → ClassId} {z : Cz} (C : CX shX α D cA z RX3 cX3_number 5 (some .int) 0 0) (r0 : Nat) (hr0 : arI r0) : ∀ (n : Nat) (x1 : Int32) (x2 : Int32) (x3 : Int32) (x4 : Int32) (σ : St), RX emI shX α D cA z 5 σ 5 [(0, .ref (α r0)), (1, .int x1), (2, .int x2), (3, .int x3), (4, .int x4)] [] (f_X3_number_5 r0 n x1 x2 x3 x4 σ) := by
  intro n
  induction n with
  | zero => intros; exact rx_none
  | succ n hk_5 =>
    intro x1 x2 x3 x4 σ
    rw [f_X3_number_5.eq_2]
    refine rx_iload C 4 dX3_number_5 rfl ?_
    refine rx_iload_n C 1 dX3_number_7 rfl rfl ?_
    refine rx_iload_n C 2 dX3_number_8 rfl rfl ?_
    refine rx_iadd C dX3_number_9 ?_
    refine rx_icmp_ge C (tgt := 45) dX3_number_10 (by decide) (fun _ => ?_) (fun _ => ?_)
    · refine rx_iload_n C 3 dX3_number_45 rfl rfl ?_
      exact rx_iret C dX3_number_46
    · refine rx_iload_n C 3 dX3_number_13 rfl rfl ?_
      refine rx_bipush C dX3_number_14 bp_8 ?_
      refine rx_ishl C dX3_number_16 ?_
      refine rx_iload C 4 dX3_number_17 rfl ?_
      refine rx_if_lt C (tgt := 36) dX3_number_19 (by decide) (fun _ => ?_) (fun _ => ?_)
      · exact RX.loc (w_X3_number_36 C r0 hr0 (f_X3_number_5 r0 n) hk_5 x1 x2 x4 (x3 <<< ((8 : Int32) &&& 31)) σ) [0, 1, 2, 4] rfl
      · refine rx_iload C 4 dX3_number_22 rfl ?_
        refine rx_aload_n C 0 dX3_number_24 rfl rfl ?_
        refine rx_alen C (n := (lnX r0)) hr0 rfl dX3_number_25 ?_
        refine rx_icmp_ge C (tgt := 36) dX3_number_26 (by decide) (fun _ => ?_) (fun _ => ?_)
        · exact RX.loc (w_X3_number_36 C r0 hr0 (f_X3_number_5 r0 n) hk_5 x1 x2 x4 (x3 <<< ((8 : Int32) &&& 31)) σ) [0, 1, 2, 4] rfl
        · refine rx_aload_n C 0 dX3_number_29 rfl rfl ?_
          refine rx_iload C 4 dX3_number_30 rfl ?_
          refine rx_iald C (n := (lnX r0)) hr0 dX3_number_32 (fun _ => ?_)
          refine rx_goto C (tgt := 37) dX3_number_33 (by decide) ?_
          exact RX.loc (w_X3_number_37 C r0 hr0 (f_X3_number_5 r0 n) hk_5 x1 x2 x4 (gI σ r0 (ix x4)) (x3 <<< ((8 : Int32) &&& 31)) σ) [0, 1, 2, 4] rfl
set_option maxRecDepth 100000 in
set_option maxHeartbeats 4000000 in
theorem w_X3_number_e {α : Nat → Nat} {D : va_G} {cA : Nat → ClassId} {z : Cz} (C : CX shX α D cA z RX3 cX3_number 5 (some .int) 0 0) (r0 : Nat) (hr0 : arI r0) (x1 : Int32) (x2 : Int32) (σ : St) : RX emI shX α D cA z 5 σ 0 [(0, .ref (α r0)), (1, .int x1), (2, .int x2)] [] (f_X3_number r0 x1 x2 σ) := by
  unfold f_X3_number
  refine rx_iconst C dX3_number_0 ic_0 ?_
  refine rx_istore_n C [(3, .int (0 : Int32)), (0, .ref (α r0)), (1, .int x1), (2, .int x2)] dX3_number_1 rfl (by decide) rfl ?_
  refine rx_iload_n C 2 dX3_number_2 rfl rfl ?_
  refine rx_istore C [(4, .int x1), (3, .int (0 : Int32)), (0, .ref (α r0)), (1, .int x1), (2, .int x2)] dX3_number_3 (by decide) rfl ?_
  exact RX.loc (w_X3_number_5 C r0 hr0 FU x1 x2 (0 : Int32) x1 σ) [2, 3, 4, 1, 0] rfl
theorem m_X3_number (l : Launch) {α : Nat → Nat} {D : va_G} {cA : Nat → ClassId} (hin : inj shX.length α) (r0 : Nat) (hr0 : arI r0) (x1 : Int32) (x2 : Int32) (σ : St) : CT shX l yX3_number cX3_number 5 (some .int) 0 0 emI α D cA [.ref (α r0), .int x1, .int x2] σ (f_X3_number r0 x1 x2 σ) := ct_of rfl (Nat.le_of_ble_eq_true rfl) hin (fun z _ C => w_X3_number_e C r0 hr0 x1 x2 σ)
set_option maxRecDepth 100000 in
set_option maxHeartbeats 4000000 in
theorem w_X3_heapStart_e {α : Nat → Nat} {D : va_G} {cA : Nat → ClassId} {z : Cz} (C : CX shX α D cA z RX3 cX3_heapStart 1 (some .int) 0 0) (σ : St) : RX emI shX α D cA z 1 σ 0 [(0, .ref (α 6))] [] (f_X3_heapStart σ) := by
  unfold f_X3_heapStart
  refine rx_iconst C dX3_heapStart_0 ic_2 ?_
  refine rx_aload_n C 0 dX3_heapStart_1 rfl rfl ?_
  refine rx_getR C (k := 0) sx_6 fc_X2 (by decide) rfl lk_X3_28 dX3_heapStart_2 ?_
  refine rx_ltr (fun g2 => ?_)
  refine rx_if (fun hg2 => ?_) (fun _ => rx_none)
  refine rx_getC C (k := 0) (ld_sh (landB_is hg2)) fc_X4 (by decide) (g2 + 1) rfl lk_X3_32 dX3_heapStart_5 ?_
  refine rx_getI C (k := 4) (ro_sh (ld_1 (landB_is hg2))) fc_X8 (by decide) rfl lk_X3_38 dX3_heapStart_8 ?_
  refine rx_bipush C dX3_heapStart_11 bp_54 ?_
  refine rx_imul C dX3_heapStart_13 ?_
  refine rx_iadd C dX3_heapStart_14 ?_
  exact rx_iret C dX3_heapStart_15
theorem m_X3_heapStart (l : Launch) {α : Nat → Nat} {D : va_G} {cA : Nat → ClassId} (hin : inj shX.length α) (σ : St) : CT shX l yX3_heapStart cX3_heapStart 1 (some .int) 0 0 emI α D cA [.ref (α 6)] σ (f_X3_heapStart σ) := ct_of rfl (Nat.le_of_ble_eq_true rfl) hin (fun z _ C => w_X3_heapStart_e C σ)
set_option maxRecDepth 100000 in
set_option maxHeartbeats 4000000 in
theorem w_X3_riverStart_e {α : Nat → Nat} {D : va_G} {cA : Nat → ClassId} {z : Cz} (C : CX shX α D cA z RX3 cX3_riverStart 1 (some .int) 1 20) (σ : St) : RX emI shX α D cA z 1 σ 0 [(0, .ref (α 6))] [] (f_X3_riverStart σ) := by
  unfold f_X3_riverStart
  refine rx_aload_n C 0 dX3_riverStart_0 rfl rfl ?_
  refine rx_callSi C [.ref (α 6)] [] (m_X3_heapStart z.l C.inj σ) ms_X3_heapStart lk_X3_68 rfl rfl (Nat.le_of_ble_eq_true rfl) ⟨Nat.le_of_ble_eq_true rfl, Nat.le_of_ble_eq_true rfl⟩ dX3_riverStart_1 (fun q2 => ?_)
  refine rx_bipush C dX3_riverStart_4 bp_52 ?_
  refine rx_iadd C dX3_riverStart_6 ?_
  exact rx_iret C dX3_riverStart_7
theorem m_X3_riverStart (l : Launch) {α : Nat → Nat} {D : va_G} {cA : Nat → ClassId} (hin : inj shX.length α) (σ : St) : CT shX l yX3_riverStart cX3_riverStart 1 (some .int) 1 20 emI α D cA [.ref (α 6)] σ (f_X3_riverStart σ) := ct_of rfl (Nat.le_of_ble_eq_true rfl) hin (fun z _ C => w_X3_riverStart_e C σ)
set_option maxRecDepth 100000 in
set_option maxHeartbeats 4000000 in
theorem w_X4_allTitles_e {α : Nat → Nat} {D : va_G} {cA : Nat → ClassId} {z : Cz} (C : CX shX α D cA z RX4 cX4_allTitles 1 (some .int) 0 0) (r0 : Nat) (hr0 : isLand r0) (σ : St) : RX emI shX α D cA z 1 σ 0 [(0, .ref (α r0))] [] (f_X4_allTitles r0 σ) := by
  unfold f_X4_allTitles
  refine rx_iconst C dX4_allTitles_0 ic_1 ?_
  refine rx_aload_n C 0 dX4_allTitles_1 rfl rfl ?_
  refine rx_getC C (k := 1) (ld_sh hr0) fc_X4 (by decide) (r0 + 4) rfl lk_X4_20 dX4_allTitles_2 ?_
  refine rx_getI C (k := 4) (ro_sh (ld_4 hr0)) fc_X8 (by decide) rfl lk_X4_51 dX4_allTitles_5 ?_
  refine rx_ishl C dX4_allTitles_8 ?_
  refine rx_iconst C dX4_allTitles_9 ic_1 ?_
  refine rx_isub C dX4_allTitles_10 ?_
  exact rx_iret C dX4_allTitles_11
theorem m_X4_allTitles (l : Launch) {α : Nat → Nat} {D : va_G} {cA : Nat → ClassId} (hin : inj shX.length α) (r0 : Nat) (hr0 : isLand r0) (σ : St) : CT shX l yX4_allTitles cX4_allTitles 1 (some .int) 0 0 emI α D cA [.ref (α r0)] σ (f_X4_allTitles r0 σ) := ct_of rfl (Nat.le_of_ble_eq_true rfl) hin (fun z _ C => w_X4_allTitles_e C r0 hr0 σ)
set_option maxRecDepth 100000 in
set_option maxHeartbeats 4000000 in
theorem w_X3_hasKnownTitles_2 {α : Nat → Nat} {D : va_G} {cA : Nat → ClassId} {z : Cz} (C : CX shX α D cA z RX3 cX3_hasKnownTitles 3 (some .boolean) 1 24) (r0 : Nat) (hr0 : arI r0) : ∀ (n : Nat) (x2 : Int32) (σ : St), RX emI shX α D cA z 3 σ 2 [(0, .ref (α r0)), (1, .ref (α 6)), (2, .int x2)] [] (f_X3_hasKnownTitles_2 r0 n x2 σ) := by
  intro n
  induction n with
  | zero => intros; exact rx_none
  | succ n hk_2 =>
    intro x2 σ
    rw [f_X3_hasKnownTitles_2.eq_2]
    refine rx_iload_n C 2 dX3_hasKnownTitles_2 rfl rfl ?_
    refine rx_aload_n C 1 dX3_hasKnownTitles_3 rfl rfl ?_
    refine rx_getR C (k := 0) sx_6 fc_X2 (by decide) rfl lk_X3_28 dX3_hasKnownTitles_4 ?_
    refine rx_ltr (fun g5 => ?_)
    refine rx_if (fun hg5 => ?_) (fun _ => rx_none)
    refine rx_getC C (k := 0) (ld_sh (landB_is hg5)) fc_X4 (by decide) (g5 + 1) rfl lk_X3_32 dX3_hasKnownTitles_7 ?_
    refine rx_getI C (k := 4) (ro_sh (ld_1 (landB_is hg5))) fc_X8 (by decide) rfl lk_X3_38 dX3_hasKnownTitles_10 ?_
    refine rx_icmp_ge C (tgt := 45) dX3_hasKnownTitles_13 (by decide) (fun _ => ?_) (fun _ => ?_)
    · refine rx_iconst C dX3_hasKnownTitles_45 ic_1 ?_
      exact rx_zretC C dX3_hasKnownTitles_46 rfl
    · refine rx_aload_n C 0 dX3_hasKnownTitles_16 rfl rfl ?_
      refine rx_iconst C dX3_hasKnownTitles_17 ic_2 ?_
      refine rx_iload_n C 2 dX3_hasKnownTitles_18 rfl rfl ?_
      refine rx_bipush C dX3_hasKnownTitles_19 bp_54 ?_
      refine rx_imul C dX3_hasKnownTitles_21 ?_
      refine rx_iadd C dX3_hasKnownTitles_22 ?_
      refine rx_iconst C dX3_hasKnownTitles_23 ic_2 ?_
      refine rx_callSi C [.ref (α r0), .int ((2 : Int32) + (x2 * (54 : Int32))), .int (2 : Int32)] [] (m_X3_number z.l C.inj r0 hr0 ((2 : Int32) + (x2 * (54 : Int32))) (2 : Int32) σ) ms_X3_number lk_X3_75 rfl rfl (Nat.le_of_ble_eq_true rfl) ⟨Nat.le_of_ble_eq_true rfl, Nat.le_of_ble_eq_true rfl⟩ dX3_hasKnownTitles_24 (fun q6 => ?_)
      refine rx_aload_n C 1 dX3_hasKnownTitles_27 rfl rfl ?_
      refine rx_getR C (k := 0) sx_6 fc_X2 (by decide) rfl lk_X3_28 dX3_hasKnownTitles_28 ?_
      refine rx_ltr (fun g7 => ?_)
      refine rx_if (fun hg7 => ?_) (fun _ => rx_none)
      refine rx_callVi C [] [.int q6.1] (m_X4_allTitles z.l C.inj g7 (landB_is hg7) q6.2) mv_X4_allTitles lk_X3_90 (ld_sh (landB_is hg7)) rfl rfl rfl (Nat.le_of_ble_eq_true rfl) ⟨Nat.le_of_ble_eq_true rfl, Nat.le_of_ble_eq_true rfl⟩ dX3_hasKnownTitles_31 (fun q8 => ?_)
      refine rx_icmp_le C (tgt := 39) dX3_hasKnownTitles_34 (by decide) (fun _ => ?_) (fun _ => ?_)
      · refine rx_iinc C (k0 := 2) (v := x2 + (1 : Int32)) [(2, .int (x2 + (1 : Int32))), (0, .ref (α r0)), (1, .ref (α 6))] dX3_hasKnownTitles_39 rfl (congrArg _ ic_1) (by decide) rfl ?_
        refine rx_goto C (tgt := 2) dX3_hasKnownTitles_42 (by decide) ?_
        exact RX.loc (hk_2 (x2 + (1 : Int32)) q8.2) [1, 2, 0] rfl
      · refine rx_iconst C dX3_hasKnownTitles_37 ic_0 ?_
        exact rx_zretC C dX3_hasKnownTitles_38 rfl
set_option maxRecDepth 100000 in
set_option maxHeartbeats 4000000 in
theorem w_X3_hasKnownTitles_e {α : Nat → Nat} {D : va_G} {cA : Nat → ClassId} {z : Cz} (C : CX shX α D cA z RX3 cX3_hasKnownTitles 3 (some .boolean) 1 24) (r0 : Nat) (hr0 : arI r0) (σ : St) : RX emI shX α D cA z 3 σ 0 [(0, .ref (α r0)), (1, .ref (α 6))] [] (f_X3_hasKnownTitles r0 σ) := by
  unfold f_X3_hasKnownTitles
  refine rx_iconst C dX3_hasKnownTitles_0 ic_0 ?_
  refine rx_istore_n C [(2, .int (0 : Int32)), (0, .ref (α r0)), (1, .ref (α 6))] dX3_hasKnownTitles_1 rfl (by decide) rfl ?_
  exact RX.loc (w_X3_hasKnownTitles_2 C r0 hr0 FU (0 : Int32) σ) [1, 2, 0] rfl
theorem m_X3_hasKnownTitles (l : Launch) {α : Nat → Nat} {D : va_G} {cA : Nat → ClassId} (hin : inj shX.length α) (r0 : Nat) (hr0 : arI r0) (σ : St) : CT shX l yX3_hasKnownTitles cX3_hasKnownTitles 3 (some .boolean) 1 24 emI α D cA [.ref (α r0), .ref (α 6)] σ (f_X3_hasKnownTitles r0 σ) := ct_of rfl (Nat.le_of_ble_eq_true rfl) hin (fun z _ C => w_X3_hasKnownTitles_e C r0 hr0 σ)
set_option maxRecDepth 100000 in
set_option maxHeartbeats 4000000 in
theorem w_X3_hasRightBullets_2 {α : Nat → Nat} {D : va_G} {cA : Nat → ClassId} {z : Cz} (C : CX shX α D cA z RX3 cX3_hasRightBullets 4 (some .boolean) 1 24) (r0 : Nat) (hr0 : arI r0) : ∀ (n : Nat) (x1 : Int32) (x2 : Int32) (x3 : Int32) (σ : St), RX emI shX α D cA z 4 σ 2 [(0, .ref (α r0)), (1, .int x1), (2, .int x2), (3, .int x3)] [] (f_X3_hasRightBullets_2 r0 n x1 x2 x3 σ) := by
  intro n
  induction n with
  | zero => intros; exact rx_none
  | succ n hk_2 =>
    intro x1 x2 x3 σ
    rw [f_X3_hasRightBullets_2.eq_2]
    refine rx_iload_n C 3 dX3_hasRightBullets_2 rfl rfl ?_
    refine rx_iload_n C 2 dX3_hasRightBullets_3 rfl rfl ?_
    refine rx_icmp_ge C (tgt := 29) dX3_hasRightBullets_4 (by decide) (fun _ => ?_) (fun _ => ?_)
    · refine rx_iconst C dX3_hasRightBullets_29 ic_1 ?_
      exact rx_zretC C dX3_hasRightBullets_30 rfl
    · refine rx_aload_n C 0 dX3_hasRightBullets_7 rfl rfl ?_
      refine rx_iload_n C 1 dX3_hasRightBullets_8 rfl rfl ?_
      refine rx_iconst C dX3_hasRightBullets_9 ic_2 ?_
      refine rx_iload_n C 3 dX3_hasRightBullets_10 rfl rfl ?_
      refine rx_imul C dX3_hasRightBullets_11 ?_
      refine rx_iadd C dX3_hasRightBullets_12 ?_
      refine rx_iconst C dX3_hasRightBullets_13 ic_2 ?_
      refine rx_callSi C [.ref (α r0), .int (x1 + ((2 : Int32) * x3)), .int (2 : Int32)] [] (m_X3_number z.l C.inj r0 hr0 (x1 + ((2 : Int32) * x3)) (2 : Int32) σ) ms_X3_number lk_X3_75 rfl rfl (Nat.le_of_ble_eq_true rfl) ⟨Nat.le_of_ble_eq_true rfl, Nat.le_of_ble_eq_true rfl⟩ dX3_hasRightBullets_14 (fun q2 => ?_)
      refine rx_iconst C dX3_hasRightBullets_17 ic_1 ?_
      refine rx_icmp_ge C (tgt := 23) dX3_hasRightBullets_18 (by decide) (fun _ => ?_) (fun _ => ?_)
      · refine rx_iinc C (k0 := 3) (v := x3 + (1 : Int32)) [(3, .int (x3 + (1 : Int32))), (0, .ref (α r0)), (1, .int x1), (2, .int x2)] dX3_hasRightBullets_23 rfl (congrArg _ ic_1) (by decide) rfl ?_
        refine rx_goto C (tgt := 2) dX3_hasRightBullets_26 (by decide) ?_
        exact RX.loc (hk_2 x1 x2 (x3 + (1 : Int32)) q2.2) [1, 2, 3, 0] rfl
      · refine rx_iconst C dX3_hasRightBullets_21 ic_0 ?_
        exact rx_zretC C dX3_hasRightBullets_22 rfl
set_option maxRecDepth 100000 in
set_option maxHeartbeats 4000000 in
theorem w_X3_hasRightBullets_e {α : Nat → Nat} {D : va_G} {cA : Nat → ClassId} {z : Cz} (C : CX shX α D cA z RX3 cX3_hasRightBullets 4 (some .boolean) 1 24) (r0 : Nat) (hr0 : arI r0) (x1 : Int32) (x2 : Int32) (σ : St) : RX emI shX α D cA z 4 σ 0 [(0, .ref (α r0)), (1, .int x1), (2, .int x2)] [] (f_X3_hasRightBullets r0 x1 x2 σ) := by
  unfold f_X3_hasRightBullets
  refine rx_iconst C dX3_hasRightBullets_0 ic_0 ?_
  refine rx_istore_n C [(3, .int (0 : Int32)), (0, .ref (α r0)), (1, .int x1), (2, .int x2)] dX3_hasRightBullets_1 rfl (by decide) rfl ?_
  exact RX.loc (w_X3_hasRightBullets_2 C r0 hr0 FU x1 x2 (0 : Int32) σ) [1, 2, 3, 0] rfl
theorem m_X3_hasRightBullets (l : Launch) {α : Nat → Nat} {D : va_G} {cA : Nat → ClassId} (hin : inj shX.length α) (r0 : Nat) (hr0 : arI r0) (x1 : Int32) (x2 : Int32) (σ : St) : CT shX l yX3_hasRightBullets cX3_hasRightBullets 4 (some .boolean) 1 24 emI α D cA [.ref (α r0), .int x1, .int x2] σ (f_X3_hasRightBullets r0 x1 x2 σ) := ct_of rfl (Nat.le_of_ble_eq_true rfl) hin (fun z _ C => w_X3_hasRightBullets_e C r0 hr0 x1 x2 σ)
set_option maxRecDepth 100000 in
set_option maxHeartbeats 4000000 in
theorem w_X3_lettersOfSet_39 {α : Nat → Nat} {D : va_G} {cA : Nat → ClassId} {z : Cz} (C : CX shX α D cA z RX3 cX3_lettersOfSet 4 (some .int) 2 42) (r0 : Nat) (hr0 : isLand r0) (k_4 : Int32 → Int32 → Int32 → St → Option (Int32 × St)) (hk_4 : ∀ (x1 : Int32) (x2 : Int32) (x3 : Int32) (σ : St), RX emI shX α D cA z 4 σ 4 [(0, .ref (α r0)), (1, .int x1), (2, .int x2), (3, .int x3)] [] (k_4 x1 x2 x3 σ)) (x1 : Int32) (x3 : Int32) (s1 : Int32) (s0 : Int32) (σ : St) : RX emI shX α D cA z 4 σ 39 [(0, .ref (α r0)), (1, .int x1), (3, .int x3)] [.int s1, .int s0] (f_X3_lettersOfSet_39 r0 k_4 x1 x3 s1 s0 σ) := by
  unfold f_X3_lettersOfSet_39
  refine rx_iadd C dX3_lettersOfSet_39 ?_
  refine rx_lti (fun w4 => ?_)
  refine rx_istore_n C [(2, .int w4), (0, .ref (α r0)), (1, .int x1), (3, .int x3)] dX3_lettersOfSet_40 rfl (by decide) rfl ?_
  refine rx_iinc C (k0 := 3) (v := x3 + (1 : Int32)) [(3, .int (x3 + (1 : Int32))), (2, .int w4), (0, .ref (α r0)), (1, .int x1)] dX3_lettersOfSet_41 rfl (congrArg _ ic_1) (by decide) rfl ?_
  refine rx_goto C (tgt := 4) dX3_lettersOfSet_44 (by decide) ?_
  exact RX.loc (hk_4 x1 w4 (x3 + (1 : Int32)) σ) [2, 3, 1, 0] rfl
set_option maxRecDepth 100000 in
set_option maxHeartbeats 4000000 in
theorem w_X3_lettersOfSet_4 {α : Nat → Nat} {D : va_G} {cA : Nat → ClassId} {z : Cz} (C : CX shX α D cA z RX3 cX3_lettersOfSet 4 (some .int) 2 42) (r0 : Nat) (hr0 : isLand r0) : ∀ (n : Nat) (x1 : Int32) (x2 : Int32) (x3 : Int32) (σ : St), RX emI shX α D cA z 4 σ 4 [(0, .ref (α r0)), (1, .int x1), (2, .int x2), (3, .int x3)] [] (f_X3_lettersOfSet_4 r0 n x1 x2 x3 σ) := by
  intro n
  induction n with
  | zero => intros; exact rx_none
  | succ n hk_4 =>
    intro x1 x2 x3 σ
    rw [f_X3_lettersOfSet_4.eq_2]
    refine rx_iload_n C 3 dX3_lettersOfSet_4 rfl rfl ?_
    refine rx_aload_n C 0 dX3_lettersOfSet_5 rfl rfl ?_
    refine rx_getC C (k := 1) (ld_sh hr0) fc_X4 (by decide) (r0 + 4) rfl lk_X3_108 dX3_lettersOfSet_6 ?_
    refine rx_getI C (k := 4) (ro_sh (ld_4 hr0)) fc_X8 (by decide) rfl lk_X3_38 dX3_lettersOfSet_9 ?_
    refine rx_icmp_ge C (tgt := 47) dX3_lettersOfSet_12 (by decide) (fun _ => ?_) (fun _ => ?_)
    · refine rx_iload_n C 2 dX3_lettersOfSet_47 rfl rfl ?_
      exact rx_iret C dX3_lettersOfSet_48
    · refine rx_iload_n C 2 dX3_lettersOfSet_15 rfl rfl ?_
      refine rx_iload_n C 1 dX3_lettersOfSet_16 rfl rfl ?_
      refine rx_iload_n C 3 dX3_lettersOfSet_17 rfl rfl ?_
      refine rx_ishr C dX3_lettersOfSet_18 ?_
      refine rx_iconst C dX3_lettersOfSet_19 ic_1 ?_
      refine rx_iand C dX3_lettersOfSet_20 ?_
      refine rx_if_ne C (tgt := 28) dX3_lettersOfSet_21 (by decide) (fun _ => ?_) (fun _ => ?_)
      · refine rx_iconst C dX3_lettersOfSet_24 ic_0 ?_
        refine rx_goto C (tgt := 39) dX3_lettersOfSet_25 (by decide) ?_
        exact RX.loc (w_X3_lettersOfSet_39 C r0 hr0 (f_X3_lettersOfSet_4 r0 n) hk_4 x1 x3 (0 : Int32) x2 σ) [0, 1, 3] rfl
      · refine rx_aload_n C 0 dX3_lettersOfSet_28 rfl rfl ?_
        refine rx_getC C (k := 1) (ld_sh hr0) fc_X4 (by decide) (r0 + 4) rfl lk_X3_108 dX3_lettersOfSet_29 ?_
        refine rx_iload_n C 3 dX3_lettersOfSet_32 rfl rfl ?_
        refine rx_callVi C [.int x3] [.int x2] (m_X8_name z.l C.inj (r0 + 4) (ld_4 hr0) x3 σ) mv_X8_name lk_X3_111 (ro_sh (ld_4 hr0)) rfl rfl rfl (Nat.le_of_ble_eq_true rfl) ⟨Nat.le_of_ble_eq_true rfl, Nat.le_of_ble_eq_true rfl⟩ dX3_lettersOfSet_33 (fun q5 => ?_)
        refine rx_callSi C [.int q5.1] [.int x2] (m_X8_lengthOf z.l C.inj q5.1 q5.2) ms_X8_lengthOf lk_X3_114 rfl rfl (Nat.le_of_ble_eq_true rfl) ⟨Nat.le_of_ble_eq_true rfl, Nat.le_of_ble_eq_true rfl⟩ dX3_lettersOfSet_36 (fun q6 => ?_)
        exact RX.loc (w_X3_lettersOfSet_39 C r0 hr0 (f_X3_lettersOfSet_4 r0 n) hk_4 x1 x3 q6.1 x2 q6.2) [0, 1, 3] rfl
set_option maxRecDepth 100000 in
set_option maxHeartbeats 4000000 in
theorem w_X3_lettersOfSet_e {α : Nat → Nat} {D : va_G} {cA : Nat → ClassId} {z : Cz} (C : CX shX α D cA z RX3 cX3_lettersOfSet 4 (some .int) 2 42) (r0 : Nat) (hr0 : isLand r0) (x1 : Int32) (σ : St) : RX emI shX α D cA z 4 σ 0 [(0, .ref (α r0)), (1, .int x1)] [] (f_X3_lettersOfSet r0 x1 σ) := by
  unfold f_X3_lettersOfSet
  refine rx_iconst C dX3_lettersOfSet_0 ic_0 ?_
  refine rx_istore_n C [(2, .int (0 : Int32)), (0, .ref (α r0)), (1, .int x1)] dX3_lettersOfSet_1 rfl (by decide) rfl ?_
  refine rx_iconst C dX3_lettersOfSet_2 ic_0 ?_
  refine rx_istore_n C [(3, .int (0 : Int32)), (2, .int (0 : Int32)), (0, .ref (α r0)), (1, .int x1)] dX3_lettersOfSet_3 rfl (by decide) rfl ?_
  exact RX.loc (w_X3_lettersOfSet_4 C r0 hr0 FU x1 (0 : Int32) (0 : Int32) σ) [2, 3, 1, 0] rfl
theorem m_X3_lettersOfSet (l : Launch) {α : Nat → Nat} {D : va_G} {cA : Nat → ClassId} (hin : inj shX.length α) (r0 : Nat) (hr0 : isLand r0) (x1 : Int32) (σ : St) : CT shX l yX3_lettersOfSet cX3_lettersOfSet 4 (some .int) 2 42 emI α D cA [.ref (α r0), .int x1] σ (f_X3_lettersOfSet r0 x1 σ) := ct_of rfl (Nat.le_of_ble_eq_true rfl) hin (fun z _ C => w_X3_lettersOfSet_e C r0 hr0 x1 σ)
